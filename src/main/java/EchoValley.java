import java.util.Arrays;

/**
 * A valley that says again what is shouted: upright and flat walls on a map, and what of a sound
 * comes from one place to another, straight, off one wall or off two.
 *
 * All rows are made in constructors and used again, so that no call makes an object. What stands
 * in the classes inside is private too, for the document's face is to be the only one.
 */
public final class EchoValley {
    public static final int NONE = -1;

    private static final int NO_SOUND = -2;
    private static final int OFF_MAP = -3;

    private static final int MOST_BYTES = 2000;
    private static final int MOST_TOKENS = 400;
    private static final int MOST_WALLS = 8;
    /** Behind the told walls' places in the row stands the one that is guessed (HIDDEN). */
    private static final int GUESSED = 8;
    private static final int WALL_ROW = 9;
    private static final int MOST_WAYS = 82;
    private static final int MOST_FOLK = 6;
    private static final int MOST_SIDE = 40;
    private static final int MOST_PLACES = 1600;
    private static final int MOST_TOLD = 20;
    private static final int MOST_SLOTS = 3;
    private static final int FARTHEST = 99;
    private static final int LOUDEST = 99;
    private static final int LONGEST_STEP = 40;

    private final Tape tape = new Tape();
    private final Reader reader = new Reader(tape);
    private final Land land = new Land();
    private final Ways ways = new Ways(land);
    private final Returns list = new Returns();
    private final Posts echoes = new Posts(MOST_TOLD);
    private final Posts shouts = new Posts(MOST_TOLD);
    private final Slot[] slots = new Slot[MOST_SLOTS];
    private final Numbers found = new Numbers();
    private final Numbers alike = new Numbers();
    private final int[] answers = new int[MOST_PLACES];
    private int faultPlace = NONE;

    public EchoValley() {
        for (int i = 0; i < slots.length; i++) {
            slots[i] = new Slot();
        }
    }

    // ---- the tape and the text

    public int feed(int a, int b, int c, int d, int e) {
        if (tape.length + 20 > MOST_BYTES) {
            return NONE;
        }
        tape.addFour(a);
        tape.addFour(b);
        tape.addFour(c);
        tape.addFour(d);
        tape.addFour(e);
        return tape.length;
    }

    public int back(int n) {
        if (n < 0 || n > tape.length) {
            return NONE;
        }
        tape.length -= n;
        return tape.length;
    }

    public int read() {
        int fault = reader.check();
        faultPlace = reader.place;
        if (fault == 0) {
            reader.fill(land);
            echoes.count = 0;
            shouts.count = 0;
            for (Slot slot : slots) {
                slot.full = false;
            }
        }
        tape.length = 0;
        return fault;
    }

    public int place() {
        return faultPlace;
    }

    // ---- walls and pace

    public int wall(int wall, int what) {
        Wall told = land.toldWall(wall);
        if (told == null) {
            return NONE;
        }
        switch (what) {
            case 0: return told.flat ? 1 : 0;
            case 1: return told.where;
            case 2: return told.from;
            case 3: return told.to;
            case 4: return told.soft;
            case 5: return told.there ? 1 : 0;
            default: return NONE;
        }
    }

    public boolean stands(int wall, boolean on) {
        Wall told = land.toldWall(wall);
        if (told == null) {
            return false;
        }
        told.there = on;
        return true;
    }

    public boolean move(int wall, int where) {
        Wall told = land.toldWall(wall);
        if (told == null || where < 0 || where > FARTHEST) {
            return false;
        }
        told.where = where;
        return true;
    }

    public int pace(int p) {
        if (p < 1 || p > 99) {
            return NONE;
        }
        int before = land.pace;
        land.pace = p;
        return before;
    }

    public boolean hold(int slot) {
        if (slot < 0 || slot >= slots.length) {
            return false;
        }
        slots[slot].keep(land);
        return true;
    }

    public boolean restore(int slot) {
        if (slot < 0 || slot >= slots.length || !slots[slot].full) {
            return false;
        }
        slots[slot].giveBack(land);
        return true;
    }

    public int count(int what) {
        switch (what) {
            case 0: return land.wallCount;
            case 1: return land.men.count;
            case 2: return land.ears.count;
            case 3: return land.bells.count;
            case 4: return land.wide;
            case 5: return land.high;
            case 6: return land.pace;
            case 7: return land.fall;
            case 8: return land.gap;
            case 9: return echoes.count;
            case 10: return shouts.count;
            case 11: return tape.length;
            case 12: return fullSlots();
            default: return NONE;
        }
    }

    private int fullSlots() {
        int full = 0;
        for (Slot slot : slots) {
            if (slot.full) {
                full++;
            }
        }
        return full;
    }

    // ---- ways and returns

    public int returns(int x, int y, int u, int v, int loud) {
        if (!land.holds(x, y) || !land.holds(u, v) || !isLoud(loud)) {
            return NONE;
        }
        ways.span(x, y, u, v);
        ways.gather(loud, list);
        return list.count;
    }

    public int at(int x, int y, int u, int v, int loud, int i, int what) {
        int many = returns(x, y, u, v, loud);
        if (i < 0 || i >= many) {
            return NONE;
        }
        switch (what) {
            case 0: return list.numbers[i];
            case 1: return list.times[i];
            case 2: return list.louds[i];
            case 3: return list.lengths[i];
            default: return NONE;
        }
    }

    public int touch(int x, int y, int u, int v, int number, int k, boolean high) {
        boolean byTwo = number >= 100;
        if (!land.holds(x, y) || !land.holds(u, v) || number < 10 || k < 0 || k > (byTwo ? 1 : 0)) {
            return NONE;
        }
        Wall one = land.toldWall(byTwo ? (number - 100) / 10 : number - 10);
        Wall two = byTwo ? land.toldWall(number % 10) : null;
        if (one == null || byTwo && (two == null || one == two)) {
            return NONE;
        }
        ways.span(x, y, u, v);
        return ways.touchPlace(one, two, k, high);
    }

    public int heard(int man, int ear) {
        if (!land.men.has(man) || !land.ears.has(ear)) {
            return NONE;
        }
        return heardApart(man, ear);
    }

    public int drowned(int man, int ear) {
        if (!land.men.has(man) || !land.ears.has(ear)) {
            return NONE;
        }
        gatherFrom(man, ear);
        return list.drownedCount(land.gap);
    }

    private int heardApart(int man, int ear) {
        gatherFrom(man, ear);
        return list.apartCount(land.gap);
    }

    private void gatherFrom(int man, int ear) {
        spanFrom(man, ear);
        ways.gather(land.men.loudAt(man), list);
    }

    private void spanFrom(int man, int ear) {
        ways.span(land.men.xAt(man), land.men.yAt(man), land.ears.xAt(ear), land.ears.yAt(ear));
    }

    /**
     * TIME of the first RETURN, not straight, to the place itself. Ways by two need not be looked at:
     * such a way back to its beginning goes to and fro between parallel walls, and the way by the first
     * of them alone is a part of it: shorter, at least as loud, and open if the whole is.
     */
    private int echoTime(int x, int y, int loud) {
        ways.span(x, y, x, y);
        return land.timeOf(ways.shortestByOne(loud, NONE));
    }

    /** TIME of the first RETURN from the place of one of these to (x, y). */
    private int soundTime(Posts posts, int i, int x, int y) {
        ways.span(posts.xAt(i), posts.yAt(i), x, y);
        return land.timeOf(ways.shortest(posts.loudAt(i), true));
    }

    // ---- beats, and places by what comes there

    public int beats(int x, int y, int loud, int beat) {
        if (!land.holds(x, y) || !isLoud(loud) || !isBeat(beat)) {
            return NONE;
        }
        int time = echoTime(x, y, loud);
        return time < 0 ? NO_SOUND : time / beat;
    }

    public int stand(int n, int loud, int beat, int what) {
        if (n < 0 || !isLoud(loud) || !isBeat(beat) || !isZeroOrOne(what)) {
            return NONE;
        }
        found.count = 0;
        for (int y = 0; y < land.high; y++) {
            for (int x = 0; x < land.wide; x++) {
                int time = echoTime(x, y, loud);
                if (time >= 0 && time / beat >= n) {
                    found.add(placeCode(x, y));
                }
            }
        }
        return manyOrFirst(what);
    }

    public int deaf(int man, int what) {
        if (!land.men.has(man) || !isZeroOrOne(what)) {
            return NONE;
        }
        found.count = 0;
        for (int y = 0; y < land.high; y++) {
            for (int x = 0; x < land.wide; x++) {
                if (soundTime(land.men, man, x, y) < 0) {
                    found.add(placeCode(x, y));
                }
            }
        }
        return manyOrFirst(what);
    }

    public int louder(int man, int k) {
        if (!land.men.has(man) || k < 1) {
            return NONE;
        }
        // A sound with LOUD k or more is one that would still come with a loudness k - 1 less.
        int loud = land.men.loudAt(man) - (k - 1);
        if (loud < 1) {
            return 0;
        }
        int many = 0;
        for (int y = 0; y < land.high; y++) {
            for (int x = 0; x < land.wide; x++) {
                ways.span(land.men.xAt(man), land.men.yAt(man), x, y);
                if (ways.shortest(loud, true) >= 0) {
                    many++;
                }
            }
        }
        return many;
    }

    public int canon(int x, int y, int loud, int beat, int n) {
        if (!land.holds(x, y) || !isLoud(loud) || !isBeat(beat) || n < 1 || n > 99) {
            return NONE;
        }
        ways.span(x, y, x, y);
        ways.gather(loud, list);
        int many = 0;
        for (int i = 1; i <= n; i++) {
            if (list.hasEchoAt(i * beat, land.gap)) {
                many++;
            }
        }
        return many;
    }

    public int along(int x, int y, int dx, int dy, int loud, int i) {
        if (!land.holds(x, y) || !isStep(dx) || !isStep(dy) || !isLoud(loud) || i < 0 || i > 99) {
            return NONE;
        }
        return alongTime(x + i * dx, y + i * dy, loud);
    }

    public int nearest(int x, int y, int dx, int dy, int loud, int n) {
        if (!land.holds(x, y) || !isStep(dx) || !isStep(dy) || !isLoud(loud) || n < 1 || n > 100) {
            return NONE;
        }
        int best = NO_SOUND;
        int least = 0;
        for (int i = 0; i < n; i++) {
            int time = alongTime(x + i * dx, y + i * dy, loud);
            if (time >= 0 && (best < 0 || time < least)) {
                best = i;
                least = time;
            }
        }
        return best;
    }

    private int alongTime(int x, int y, int loud) {
        return land.holds(x, y) ? echoTime(x, y, loud) : OFF_MAP;
    }

    // ---- walls looked for

    public int put(int wall, int man, int ear, int what) {
        Wall told = land.toldWall(wall);
        if (told == null || !land.men.has(man) || !land.ears.has(ear) || !isZeroOrOne(what)) {
            return NONE;
        }
        int whereBefore = told.where;
        boolean thereBefore = told.there;
        told.there = true;
        int best = 0;
        int most = NONE;
        for (int where = 0; where < MOST_SIDE; where++) {
            told.where = where;
            int many = heardApart(man, ear);
            if (many > most) {
                best = where;
                most = many;
            }
        }
        told.where = whereBefore;
        told.there = thereBefore;
        return what == 0 ? best : most;
    }

    public int hush(int man, int ear) {
        if (!land.men.has(man) || !land.ears.has(ear)) {
            return NONE;
        }
        spanFrom(man, ear);
        int loud = land.men.loudAt(man);
        int standing = land.standingBits();
        int best = standing;
        for (int bits = 0; bits < standing; bits++) {
            if ((bits & ~standing) == 0 && Integer.bitCount(bits) < Integer.bitCount(best)) {
                land.setStanding(standing & ~bits);
                if (ways.shortest(loud, false) < 0) {
                    best = bits;
                }
            }
        }
        land.setStanding(standing);
        return best;
    }

    // ---- men, bells and stairs

    public int whose(int ear, int time) {
        if (!land.ears.has(ear)) {
            return NONE;
        }
        int bits = 0;
        for (int man = 0; man < land.men.count; man++) {
            int sound = soundTime(land.men, man, land.ears.xAt(ear), land.ears.yAt(ear));
            if (sound >= 0 && sound == time) {
                bits |= 1 << man;
            }
        }
        return bits;
    }

    public int first(int x, int y, int what) {
        if (!land.holds(x, y) || !isZeroOrOne(what)) {
            return NONE;
        }
        int best = NO_SOUND;
        int soonest = NO_SOUND;
        for (int bell = 0; bell < land.bells.count; bell++) {
            int when = bellTime(bell, x, y);
            if (when >= 0 && (best < 0 || when < soonest)) {
                best = bell;
                soonest = when;
            }
        }
        return what == 0 ? best : soonest;
    }

    public int cross(int bell, int other, int g, int what) {
        if (!land.bells.has(bell) || !land.bells.has(other) || bell == other || g < 0 || !isZeroOrOne(what)) {
            return NONE;
        }
        found.count = 0;
        for (int y = 0; y < land.high; y++) {
            for (int x = 0; x < land.wide; x++) {
                int one = bellTime(bell, x, y);
                int two = bellTime(other, x, y);
                if (one >= 0 && two >= 0 && Math.abs(one - two) <= g) {
                    found.add(placeCode(x, y));
                }
            }
        }
        return manyOrFirst(what);
    }

    /** When the first sound of a bell comes to a place. */
    private int bellTime(int bell, int x, int y) {
        int time = soundTime(land.bells, bell, x, y);
        return time < 0 ? NO_SOUND : land.bells.timeAt(bell) + time;
    }

    public int chirp(int far, int tread, int i) {
        if (far < 1 || far > 999 || tread < 1 || tread > 999 || i < 1 || i > 99) {
            return NONE;
        }
        return stairTime(far + i * tread) - stairTime(far + (i - 1) * tread);
    }

    private int stairTime(int far) {
        return (int) quotient(2000L * far, land.pace);
    }

    // ---- a hidden wall

    public int tell(int x, int y, int loud, int time) {
        if (!land.holds(x, y) || !isLoud(loud) || !isTold(time)) {
            return NONE;
        }
        return echoes.add(x, y, loud, time);
    }

    public int forget() {
        int many = echoes.count;
        echoes.count = 0;
        shouts.count = 0;
        return many;
    }

    public int hidden(int k, int i) {
        if (k < 0 || k > echoes.count || i < NONE) {
            return NONE;
        }
        findHidden(k);
        return i == NONE ? found.count : found.get(i);
    }

    public int next(int k, int loud) {
        if (k < 0 || k > echoes.count || !isLoud(loud)) {
            return NONE;
        }
        findHidden(k);
        if (found.count == 0) {
            return NO_SOUND;
        }
        int best = 0;
        int least = MOST_PLACES + 1;
        for (int y = 0; y < land.high; y++) {
            for (int x = 0; x < land.wide; x++) {
                int most = mostGuessesAlike(x, y, loud);
                if (most < least) {
                    best = placeCode(x, y);
                    least = most;
                }
            }
        }
        return best;
    }

    private void findHidden(int k) {
        found.count = 0;
        for (int c = 0; c < 2 * MOST_SIDE; c++) {
            int guess = c < MOST_SIDE ? c : 100 + c - MOST_SIDE;
            land.guess(guess);
            boolean fits = true;
            for (int j = 0; j < k && fits; j++) {
                fits = echoTime(echoes.xAt(j), echoes.yAt(j), echoes.loudAt(j)) == echoes.timeAt(j);
            }
            if (fits) {
                found.add(guess);
            }
        }
        land.endGuess();
    }

    /** Of the walls found: how many, at the most, would give one and the same answer here. */
    private int mostGuessesAlike(int x, int y, int loud) {
        alike.count = 0;
        for (int i = 0; i < found.count; i++) {
            land.guess(found.get(i));
            alike.add(echoTime(x, y, loud));
        }
        land.endGuess();
        return alike.longestRun();
    }

    // ---- in fog

    public int shout(int dx, int dy, int loud, int time) {
        if (!isStep(dx) || !isStep(dy) || !isLoud(loud) || !isTold(time)) {
            return NONE;
        }
        return shouts.add(dx, dy, loud, time);
    }

    public int fitting(int k, int i) {
        if (k < 0 || k > shouts.count || i < NONE) {
            return NONE;
        }
        findFitting(k);
        return i == NONE ? found.count : found.get(i);
    }

    public int step(int k, int loud) {
        if (k < 0 || k > shouts.count || !isLoud(loud)) {
            return NONE;
        }
        findFitting(k);
        if (found.count == 0) {
            return NO_SOUND;
        }
        answerEverywhere(loud);
        int best = 0;
        int least = MOST_PLACES + 1;
        for (int dy = -2; dy <= 2; dy++) {
            for (int dx = -2; dx <= 2; dx++) {
                int most = mostStepsAlike(dx, dy);
                if (most < least) {
                    best = 100 * (dy + 2) + dx + 2;
                    least = most;
                }
            }
        }
        return best;
    }

    private void findFitting(int k) {
        found.count = 0;
        for (int y = 0; y < land.high; y++) {
            for (int x = 0; x < land.wide; x++) {
                boolean fits = true;
                for (int j = 0; j < k && fits; j++) {
                    int u = x + shouts.xAt(j);
                    int v = y + shouts.yAt(j);
                    fits = land.holds(u, v) && echoTime(u, v, shouts.loudAt(j)) == shouts.timeAt(j);
                }
                if (fits) {
                    found.add(placeCode(x, y));
                }
            }
        }
    }

    /** The answer of every place is kept, for each is asked for by up to 25 steps. */
    private void answerEverywhere(int loud) {
        for (int y = 0; y < land.high; y++) {
            for (int x = 0; x < land.wide; x++) {
                int i = MOST_SIDE * y + x;
                if (i < answers.length) {
                    answers[i] = echoTime(x, y, loud);
                }
            }
        }
    }

    /** Of the places found: how many, at the most, would give one and the same answer after a step. */
    private int mostStepsAlike(int dx, int dy) {
        alike.count = 0;
        for (int i = 0; i < found.count; i++) {
            int x = found.get(i) % 100 + dx;
            int y = found.get(i) / 100 + dy;
            alike.add(land.holds(x, y) ? answers[MOST_SIDE * y + x] : OFF_MAP);
        }
        return alike.longestRun();
    }

    // ---- small questions

    private static boolean isLoud(int loud) {
        return loud >= 1 && loud <= LOUDEST;
    }

    private static boolean isBeat(int beat) {
        return beat >= 1 && beat <= 9999;
    }

    private static boolean isStep(int d) {
        return d >= -LONGEST_STEP && d <= LONGEST_STEP;
    }

    private static boolean isTold(int time) {
        return time >= 0 || time == NO_SOUND;
    }

    private static boolean isZeroOrOne(int what) {
        return what == 0 || what == 1;
    }

    private static int placeCode(int x, int y) {
        return 100 * y + x;
    }

    private int manyOrFirst(int what) {
        if (what == 0) {
            return found.count;
        }
        return found.count == 0 ? NO_SOUND : found.get(0);
    }

    /** Rounded down, for a is never below 0. */
    private static long quotient(long a, long b) {
        return b < 1 ? 0 : a / b;
    }

    /** The square root, rounded down, of what is below 2 to the 42nd. */
    private static long root(long square) {
        long root = 0;
        for (long bit = 1L << 20; bit > 0; bit >>= 1) {
            if ((root + bit) * (root + bit) <= square) {
                root += bit;
            }
        }
        return root;
    }

    /** The bytes that are fed. */
    private static final class Tape {
        private final byte[] bytes = new byte[MOST_BYTES];
        private int length;

        private void addFour(int four) {
            for (int shift = 24; shift >= 0; shift -= 8) {
                if (length < bytes.length) {
                    bytes[length] = (byte) (four >>> shift);
                    length++;
                }
            }
        }

        private int byteAt(int i) {
            return i >= 0 && i < length && i < bytes.length ? bytes[i] & 255 : NONE;
        }
    }

    /** Reads the tape as a text: first its form, then its numbers and names, then the map. */
    private static final class Reader {
        private static final int SYNTAX = 1;
        private static final int ROOM = 2;
        private static final int TWICE = 3;
        private static final int WRONG = 5;
        private static final int OUT = 6;

        private static final int BAD = 0;
        private static final int END = 1;
        private static final int NAME = 2;
        private static final int INT = 3;
        private static final int SEMICOLON = 4;
        private static final int UP = 5;
        private static final int FLAT = 6;
        private static final int WALL = 7;
        private static final int MAN = 8;
        private static final int EAR = 9;
        private static final int BELL = 10;
        private static final int MAP = 11;
        private static final int PACE = 12;
        private static final int FALL = 13;
        private static final int GAP = 14;

        /** By the word from WALL on: how many INTS follow, and how often it may be told. */
        private static final int[] INTS = {4, 3, 2, 3, 2, 1, 1, 1};
        private static final int[] MOST = {8, 6, 6, 6, 400, 400, 400, 400};
        /** By the word from WALL on, four each: what the INTS may be. */
        private static final int[] LEAST = {
            0, 0, 0, 0, 0, 0, 1, 0, 0, 0, 0, 0, 0, 0, 0, 0, 1, 1, 0, 0, 1, 0, 0, 0, 1, 0, 0, 0, 0, 0, 0, 0};
        private static final int[] GREATEST = {
            99, 99, 99, 99, 99, 99, 99, 0, 99, 99, 0, 0, 99, 99, 9999, 0,
            40, 40, 0, 0, 99, 0, 0, 0, 99, 0, 0, 0, 9999, 0, 0, 0};

        private final Tape tape;
        private final int[] kinds = new int[MOST_TOKENS];
        private final int[] starts = new int[MOST_TOKENS];
        /** What an INT is worth; a NAME's length. */
        private final int[] values = new int[MOST_TOKENS];
        private final int[] timesTold = new int[8];
        private final int[] numbers = new int[4];
        private int tokens;
        private int fault;
        private int place;
        private int cursor;
        private int kind;
        private int start;
        private int value;

        private Reader(Tape tape) {
            this.tape = tape;
        }

        /** The number of the FAULT, 0 without. */
        private int check() {
            fault = 0;
            place = NONE;
            checkForm();
            if (fault == 0) {
                checkNamesAndNumbers();
            }
            if (fault == 0) {
                checkMap();
            }
            return fault;
        }

        private void blame(int number, int where) {
            fault = number;
            place = where;
        }

        private void checkForm() {
            cursor = 0;
            tokens = 0;
            Arrays.fill(timesTold, 0);
            int word = END;
            int step = 0;
            for (int t = 0; t <= MOST_TOKENS && fault == 0; t++) {
                scan();
                if (kind == END && step == 0) {
                    return;
                }
                if (step == 0) {
                    word = kind;
                }
                if (!goesOn(word, step)) {
                    blame(SYNTAX, start);
                } else if (t == MOST_TOKENS || step == 0 && addsTooMany(word)) {
                    blame(ROOM, start);
                } else {
                    keepToken();
                }
                step = kind == SEMICOLON ? 0 : step + 1;
            }
        }

        /** Whether the token may be the step-th of what the word tells. */
        private boolean goesOn(int word, int step) {
            if (step == 0) {
                return kind >= WALL;
            }
            int named = word <= BELL ? 1 : 0;
            int sided = word == WALL ? 1 : 0;
            if (step <= named) {
                return kind == NAME;
            }
            if (step <= named + sided) {
                return kind == UP || kind == FLAT;
            }
            int i = word - WALL;
            int ints = i >= 0 && i < INTS.length ? INTS[i] : 0;
            return kind == (step <= named + sided + ints ? INT : SEMICOLON);
        }

        /** One more of the word is told: whether it is one too many. */
        private boolean addsTooMany(int word) {
            int i = word - WALL;
            if (i < 0 || i >= timesTold.length) {
                return true;
            }
            timesTold[i]++;
            return timesTold[i] > MOST[i];
        }

        private void keepToken() {
            if (tokens < MOST_TOKENS) {
                kinds[tokens] = kind;
                starts[tokens] = start;
                values[tokens] = value;
                tokens++;
            }
        }

        private void scan() {
            while (cursor < tape.length && isBlank(tape.byteAt(cursor))) {
                cursor++;
            }
            start = cursor;
            value = 0;
            int sign = tape.byteAt(cursor);
            if (sign == NONE) {
                kind = END;
            } else if (isLetter(sign)) {
                scanLetters();
            } else if (isDigit(sign)) {
                scanDigits();
            } else {
                cursor++;
                kind = sign == ';' ? SEMICOLON : BAD;
            }
        }

        private void scanLetters() {
            while (cursor < tape.length && isLetter(tape.byteAt(cursor))) {
                cursor++;
            }
            value = cursor - start;
            kind = value > 8 ? BAD : kindOfLetters();
        }

        private void scanDigits() {
            while (cursor < tape.length && isDigit(tape.byteAt(cursor))) {
                if (cursor - start < 4) {
                    value = 10 * value + tape.byteAt(cursor) - '0';
                }
                cursor++;
            }
            kind = cursor - start > 4 ? BAD : INT;
        }

        private int kindOfLetters() {
            if (spells("wall")) {
                return WALL;
            } else if (spells("up")) {
                return UP;
            } else if (spells("flat")) {
                return FLAT;
            } else if (spells("man")) {
                return MAN;
            } else if (spells("ear")) {
                return EAR;
            } else if (spells("bell")) {
                return BELL;
            } else if (spells("map")) {
                return MAP;
            } else if (spells("pace")) {
                return PACE;
            } else if (spells("fall")) {
                return FALL;
            } else if (spells("gap")) {
                return GAP;
            }
            return NAME;
        }

        private boolean spells(String word) {
            if (word.length() != value) {
                return false;
            }
            for (int i = 0; i < word.length(); i++) {
                if (word.charAt(i) != tape.byteAt(start + i)) {
                    return false;
                }
            }
            return true;
        }

        private static boolean isBlank(int sign) {
            return sign == 9 || sign == 10 || sign == 13 || sign == 32;
        }

        private static boolean isLetter(int sign) {
            return sign >= 'a' && sign <= 'z';
        }

        private static boolean isDigit(int sign) {
            return sign >= '0' && sign <= '9';
        }

        private void checkNamesAndNumbers() {
            int word = END;
            int ints = 0;
            for (int t = 0; t < tokens && fault == 0; t++) {
                if (kinds[t] >= WALL) {
                    word = kinds[t];
                    ints = 0;
                } else if (kinds[t] == NAME && isToldBefore(t)) {
                    blame(TWICE, starts[t]);
                } else if (kinds[t] == INT) {
                    if (isWrong(word, ints, t)) {
                        blame(WRONG, starts[t]);
                    }
                    ints++;
                }
            }
        }

        private boolean isToldBefore(int t) {
            for (int s = 0; s < t; s++) {
                if (kinds[s] == NAME && isSameName(s, t)) {
                    return true;
                }
            }
            return false;
        }

        private boolean isSameName(int s, int t) {
            if (values[s] != values[t]) {
                return false;
            }
            for (int i = 0; i < values[s]; i++) {
                if (tape.byteAt(starts[s] + i) != tape.byteAt(starts[t] + i)) {
                    return false;
                }
            }
            return true;
        }

        /** Whether the INT at t, so many INTS behind the word, is not as told. */
        private boolean isWrong(int word, int ints, int t) {
            int i = 4 * (word - WALL) + ints;
            if (i < 0 || i >= LEAST.length || values[t] < LEAST[i] || values[t] > GREATEST[i]) {
                return true;
            }
            boolean isTo = word == WALL && ints == 2;
            return isTo && t > 0 && values[t] < values[t - 1];
        }

        private void checkMap() {
            int wide = 20;
            int high = 20;
            for (int t = 0; t + 2 < tokens; t++) {
                if (kinds[t] == MAP) {
                    wide = values[t + 1];
                    high = values[t + 2];
                }
            }
            int word = END;
            int ints = 0;
            for (int t = 0; t < tokens && fault == 0; t++) {
                if (kinds[t] >= WALL) {
                    word = kinds[t];
                    ints = 0;
                } else if (kinds[t] == INT) {
                    boolean stays = word == MAN || word == EAR || word == BELL;
                    int end = ints == 0 ? wide : high;
                    if (stays && ints < 2 && values[t] >= end) {
                        blame(OUT, starts[t]);
                    }
                    ints++;
                }
            }
        }

        /** What the tokens of a text without a FAULT tell. */
        private void fill(Land land) {
            land.clear();
            int word = END;
            int ints = 0;
            boolean flat = false;
            for (int t = 0; t < tokens; t++) {
                if (kinds[t] >= WALL) {
                    word = kinds[t];
                    ints = 0;
                } else if (kinds[t] == UP || kinds[t] == FLAT) {
                    flat = kinds[t] == FLAT;
                } else if (kinds[t] == INT && ints < numbers.length) {
                    numbers[ints] = values[t];
                    ints++;
                } else if (kinds[t] == SEMICOLON) {
                    tellLand(land, word, flat);
                }
            }
        }

        private void tellLand(Land land, int word, boolean flat) {
            switch (word) {
                case WALL: land.addWall(flat, numbers[0], numbers[1], numbers[2], numbers[3]); break;
                case MAN: land.men.add(numbers[0], numbers[1], numbers[2], 0); break;
                case EAR: land.ears.add(numbers[0], numbers[1], 0, 0); break;
                case BELL: land.bells.add(numbers[0], numbers[1], LOUDEST, numbers[2]); break;
                case MAP: land.wide = numbers[0]; land.high = numbers[1]; break;
                case PACE: land.pace = numbers[0]; break;
                case FALL: land.fall = numbers[0]; break;
                case GAP: land.gap = numbers[0]; break;
                default: break;
            }
        }
    }

    /** What a text tells: the walls, who stands where, and the numbers of the valley. */
    private static final class Land {
        private final Wall[] walls = new Wall[WALL_ROW];
        private int wallCount;
        private final Posts men = new Posts(MOST_FOLK);
        private final Posts ears = new Posts(MOST_FOLK);
        private final Posts bells = new Posts(MOST_FOLK);
        private int wide;
        private int high;
        private int pace;
        private int fall;
        private int gap;

        private Land() {
            for (int i = 0; i < walls.length; i++) {
                walls[i] = new Wall();
            }
            clear();
        }

        private void clear() {
            for (Wall wall : walls) {
                wall.there = false;
            }
            wallCount = 0;
            men.count = 0;
            ears.count = 0;
            bells.count = 0;
            wide = 20;
            high = 20;
            pace = 10;
            fall = 10;
            gap = 100;
        }

        private boolean holds(int x, int y) {
            return x >= 0 && x < wide && y >= 0 && y < high;
        }

        private void addWall(boolean flat, int where, int from, int to, int soft) {
            if (wallCount < MOST_WALLS) {
                walls[wallCount].build(flat, where, from, to, soft);
                wallCount++;
            }
        }

        /** The wall of a number; null if there is no such one. */
        private Wall toldWall(int wall) {
            return wall >= 0 && wall < wallCount && wall < walls.length ? walls[wall] : null;
        }

        private int standingBits() {
            int bits = 0;
            for (int i = 0; i < wallCount; i++) {
                if (walls[i].there) {
                    bits |= 1 << i;
                }
            }
            return bits;
        }

        private void setStanding(int bits) {
            for (int i = 0; i < wallCount; i++) {
                walls[i].there = (bits >> i & 1) == 1;
            }
        }

        /** As if a HIDDEN wall stood: c for up, 100 + c for flat. */
        private void guess(int code) {
            walls[GUESSED].build(code >= 100, code % 100, 0, FARTHEST, 0);
        }

        private void endGuess() {
            walls[GUESSED].there = false;
        }

        /** TIME of a way by the square of its length; NO_SOUND if there is none. */
        private int timeOf(long square) {
            return square < 0 ? NO_SOUND : (int) quotient(root(1000000L * square), pace);
        }
    }

    /** A place in fractions: x / d, y / d, with d above 0. */
    private static final class Spot {
        private long x;
        private long y;
        private long d = 1;

        private void setWhole(long x, long y) {
            this.x = x;
            this.y = y;
            this.d = 1;
        }
    }

    private static final class Wall {
        private boolean flat;
        private int where;
        private int from;
        private int to;
        private int soft;
        private boolean there;

        private void build(boolean flat, int where, int from, int to, int soft) {
            this.flat = flat;
            this.where = where;
            this.from = from;
            this.to = to;
            this.soft = soft;
            this.there = true;
        }

        /** Lays a place of whole numbers over the wall's line. */
        private void mirror(Spot spot, Spot image) {
            image.x = flat ? spot.x : 2L * where - spot.x;
            image.y = flat ? 2L * where - spot.y : spot.y;
            image.d = 1;
        }

        /**
         * Whether straight from a to b the line is crossed, truly from one side to the other, at a
         * place of the wall; that place is put in spot then.
         */
        private boolean isCrossed(Spot a, Spot b, Spot spot) {
            long sideA = (flat ? a.y : a.x) - where * a.d;
            long sideB = (flat ? b.y : b.x) - where * b.d;
            boolean truly = sideA < 0 && sideB > 0 || sideA > 0 && sideB < 0;
            if (!truly) {
                return false;
            }
            // Each end weighs as much as the other one is far from the line.
            long weightA = sideB < 0 ? -sideB : sideB;
            long weightB = sideA < 0 ? -sideA : sideA;
            long d = a.d * weightA + b.d * weightB;
            long l = (flat ? a.x : a.y) * weightA + (flat ? b.x : b.y) * weightB;
            if (l < from * d || l > to * d) {
                return false;
            }
            spot.x = flat ? l : where * d;
            spot.y = flat ? where * d : l;
            spot.d = d;
            return true;
        }
    }

    /** The ways from one place to another: straight (no wall), by one, by two (null: no such wall). */
    private static final class Ways {
        private final Land land;
        private final Spot start = new Spot();
        private final Spot end = new Spot();
        /** The end laid over the second wall's line (the end itself without one). */
        private final Spot nearImage = new Spot();
        /** That laid over the first wall's line. */
        private final Spot lastImage = new Spot();
        private final Spot touchOne = new Spot();
        private final Spot touchTwo = new Spot();
        private final Spot crossing = new Spot();

        private Ways(Land land) {
            this.land = land;
        }

        private void span(int x, int y, int u, int v) {
            start.setWhole(x, y);
            end.setWhole(u, v);
        }

        /** Finds the images; the square of the way's length. */
        private long unfold(Wall one, Wall two) {
            if (two == null) {
                nearImage.setWhole(end.x, end.y);
            } else {
                two.mirror(end, nearImage);
            }
            if (one == null) {
                lastImage.setWhole(nearImage.x, nearImage.y);
            } else {
                one.mirror(nearImage, lastImage);
            }
            long dx = lastImage.x - start.x;
            long dy = lastImage.y - start.y;
            return dx * dx + dy * dy;
        }

        /** Whether there is such a way; the images are found already. */
        private boolean isOpen(Wall one, Wall two) {
            if (one != null && !one.isCrossed(start, lastImage, touchOne)) {
                return false;
            }
            if (two != null && !two.isCrossed(touchOne, nearImage, touchTwo)) {
                return false;
            }
            Spot lastTouch = one == null ? start : two == null ? touchOne : touchTwo;
            for (Wall wall : land.walls) {
                if (wall.there
                        && (wall.isCrossed(lastTouch, end, crossing)
                            || one != null && wall.isCrossed(start, touchOne, crossing)
                            || two != null && wall.isCrossed(touchOne, touchTwo, crossing))) {
                    return false;
                }
            }
            return true;
        }

        private int loudOf(long square, Wall one, Wall two, int loud) {
            int left = loud - (int) quotient(root(square), land.fall);
            if (one != null) {
                left -= one.soft;
            }
            if (two != null) {
                left -= two.soft;
            }
            return left;
        }

        /** The square of the length of the shortest way that comes; NONE if none does. */
        private long shortest(int loud, boolean straightToo) {
            long best = straightToo ? shorter(null, null, loud, NONE) : NONE;
            best = shortestByOne(loud, best);
            for (Wall one : land.walls) {
                for (Wall two : land.walls) {
                    if (one != two && one.there && two.there) {
                        best = shorter(one, two, loud, best);
                    }
                }
            }
            return best;
        }

        /** The same of those by one wall; best if none of them is shorter. */
        private long shortestByOne(int loud, long best) {
            long shortest = best;
            for (Wall one : land.walls) {
                if (one.there) {
                    shortest = shorter(one, null, loud, shortest);
                }
            }
            return shortest;
        }

        private long shorter(Wall one, Wall two, int loud, long best) {
            long square = unfold(one, two);
            if (best != NONE && square >= best) {
                return best;
            }
            boolean comes = isOpen(one, two) && loudOf(square, one, two, loud) >= 1;
            return comes ? square : best;
        }

        /** Puts all RETURNS in the list. */
        private void gather(int loud, Returns list) {
            list.count = 0;
            gatherOne(null, null, 0, loud, list);
            for (int i = 0; i < land.walls.length; i++) {
                Wall one = land.walls[i];
                if (!one.there) {
                    continue;
                }
                gatherOne(one, null, 10 + i, loud, list);
                for (int j = 0; j < land.walls.length; j++) {
                    Wall two = land.walls[j];
                    if (i != j && two.there) {
                        gatherOne(one, two, 100 + 10 * i + j, loud, list);
                    }
                }
            }
        }

        private void gatherOne(Wall one, Wall two, int number, int loud, Returns list) {
            long square = unfold(one, two);
            int left = loudOf(square, one, two, loud);
            if (left >= 1 && isOpen(one, two)) {
                list.insert(number, land.timeOf(square), left, (int) root(square));
            }
        }

        /** In thousandths, where the way by one wall or two touches the k-th; NO_SOUND: no such way. */
        private int touchPlace(Wall one, Wall two, int k, boolean high) {
            if (one == null || !one.there || two != null && !two.there) {
                return NO_SOUND;
            }
            unfold(one, two);
            if (!isOpen(one, two)) {
                return NO_SOUND;
            }
            Spot spot = k == 0 ? touchOne : touchTwo;
            return (int) quotient(1000L * (high ? spot.y : spot.x), spot.d);
        }
    }

    /** RETURNS in their order. */
    private static final class Returns {
        private final int[] numbers = new int[MOST_WAYS];
        private final int[] times = new int[MOST_WAYS];
        private final int[] louds = new int[MOST_WAYS];
        private final int[] lengths = new int[MOST_WAYS];
        private int count;

        private void insert(int number, int time, int loud, int length) {
            if (count >= MOST_WAYS) {
                return;
            }
            int i = count;
            while (i > 0 && isBehind(i - 1, number, time, loud)) {
                numbers[i] = numbers[i - 1];
                times[i] = times[i - 1];
                louds[i] = louds[i - 1];
                lengths[i] = lengths[i - 1];
                i--;
            }
            numbers[i] = number;
            times[i] = time;
            louds[i] = loud;
            lengths[i] = length;
            count++;
        }

        private boolean isBehind(int i, int number, int time, int loud) {
            if (times[i] != time) {
                return times[i] > time;
            }
            if (louds[i] != loud) {
                return louds[i] < loud;
            }
            return numbers[i] > number;
        }

        private boolean isDrowned(int i, int gap) {
            for (int j = 0; j < i; j++) {
                if (times[i] - times[j] < gap && louds[j] > louds[i]) {
                    return true;
                }
            }
            return false;
        }

        private int drownedCount(int gap) {
            int many = 0;
            for (int i = 0; i < count; i++) {
                if (isDrowned(i, gap)) {
                    many++;
                }
            }
            return many;
        }

        private int apartCount(int gap) {
            int many = 0;
            int last = 0;
            for (int i = 0; i < count; i++) {
                if (!isDrowned(i, gap) && (many == 0 || times[i] - last >= gap)) {
                    many++;
                    last = times[i];
                }
            }
            return many;
        }

        /** Whether one that is not straight comes at a time, or less than gap behind it. */
        private boolean hasEchoAt(int time, int gap) {
            for (int i = 0; i < count; i++) {
                int behind = times[i] - time;
                if (numbers[i] != 0 && (behind == 0 || behind > 0 && behind < gap)) {
                    return true;
                }
            }
            return false;
        }
    }

    /** Places with a loudness and a time: men, ears, bells, echoes and shouts that are told. */
    private static final class Posts {
        private final int[] xs;
        private final int[] ys;
        private final int[] louds;
        private final int[] times;
        private int count;

        private Posts(int most) {
            xs = new int[most];
            ys = new int[most];
            louds = new int[most];
            times = new int[most];
        }

        private boolean has(int i) {
            return i >= 0 && i < count && i < xs.length;
        }

        /** The number of the one that is added; NONE if there is no room. */
        private int add(int x, int y, int loud, int time) {
            if (count >= xs.length) {
                return NONE;
            }
            xs[count] = x;
            ys[count] = y;
            louds[count] = loud;
            times[count] = time;
            count++;
            return count - 1;
        }

        private int xAt(int i) {
            return has(i) ? xs[i] : 0;
        }

        private int yAt(int i) {
            return has(i) ? ys[i] : 0;
        }

        private int loudAt(int i) {
            return has(i) ? louds[i] : 0;
        }

        private int timeAt(int i) {
            return has(i) ? times[i] : 0;
        }
    }

    /** What is held of the walls and the pace. */
    private static final class Slot {
        private final int[] wheres = new int[MOST_WALLS];
        private int standing;
        private int paceHeld;
        private boolean full;

        private void keep(Land land) {
            for (int i = 0; i < wheres.length; i++) {
                wheres[i] = land.walls[i].where;
            }
            standing = land.standingBits();
            paceHeld = land.pace;
            full = true;
        }

        private void giveBack(Land land) {
            for (int i = 0; i < wheres.length; i++) {
                land.walls[i].where = wheres[i];
            }
            land.setStanding(standing);
            land.pace = paceHeld;
        }
    }

    /** A row of numbers: places or walls that are found, answers that are compared. */
    private static final class Numbers {
        private final int[] row = new int[MOST_PLACES];
        private int count;

        private void add(int number) {
            if (count < row.length) {
                row[count] = number;
                count++;
            }
        }

        private int get(int i) {
            return i >= 0 && i < count && i < row.length ? row[i] : NONE;
        }

        /** How many of one and the same number there are at the most; the row is sorted for it. */
        private int longestRun() {
            sort();
            int longest = 0;
            int run = 0;
            for (int i = 0; i < count; i++) {
                run = i > 0 && row[i] == row[i - 1] ? run + 1 : 1;
                longest = Math.max(longest, run);
            }
            return longest;
        }

        /** Shell's way: rows of 1600 answers are sorted 25 times in one call. */
        private void sort() {
            for (int gap = count / 2; gap > 0; gap /= 2) {
                for (int i = gap; i < count; i++) {
                    int number = row[i];
                    int j = i;
                    while (j >= gap && row[j - gap] > number) {
                        row[j] = row[j - gap];
                        j -= gap;
                    }
                    row[j] = number;
                }
            }
        }
    }
}
