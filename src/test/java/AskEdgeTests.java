/** The edges of what is asked of places, men, bells and stairs: part III of the document, and promises 15 to 27. */
public final class AskEdgeTests {
    private static final Edges T = new Edges("AskEdgeTests");
    private static final int NONE = EchoValley.NONE;
    private static final int MAX = Integer.MAX_VALUE;
    private static final int MIN = Integer.MIN_VALUE;
    /** Three walls, two men, one ear, four bells, on a MAP that is wider than high. */
    private static final String TEXT = "map 9 6;wall a up 12 0 9 1;wall b flat 0 0 9 0;wall c up 0 0 9 2;man m 3 2 60;man n 4 4 1;ear e 5 3;"
        + "bell o 1 1 5;bell p 8 5 0;bell q 0 0 99;bell r 3 3 9999;";
    /** In y 0 .. 4 it takes 1200, 1000, 800, 600, 400, 200, none (on the wall), 200; in y 5 nothing comes. */
    private static final String STEPS = "map 8 6;fall 99;wall a up 6 0 4 0;";

    public static void main(String[] args) {
        if (run() != 0) {
            System.exit(1);
        }
    }

    static int run() {
        beatsAsked();
        wholeBeats();
        beatsOfTheFirst();
        noBeats();
        standAsked();
        standByBeats();
        standFirst();
        standWhereNoneComes();
        deafAsked();
        deafPlaces();
        deafNone();
        louderAsked();
        louderThan();
        canonAsked();
        canonAtItOrBehind();
        canonToTheLast();
        putAsked();
        putPlaces();
        putLeast();
        putStays();
        putTakenAway();
        putByManAndEar();
        hushAsked();
        hushFewest();
        hushLeastBits();
        hushOfThoseThere();
        hushStays();
        hushByManAndEar();
        whoseAsked();
        whoseBits();
        alongAsked();
        alongOffTheMap();
        nearestAsked();
        nearestOfAlikeOnes();
        nearestOnTheMap();
        firstAsked();
        firstOfAlikeOnes();
        firstNone();
        asLoudAs99();
        crossAsked();
        crossWithin();
        crossBothCome();
        chirpAsked();
        stairs();
        chirpRounded();
        noneAheadOfMinusTwo();
        return T.end();
    }

    // ---- promise 15

    private static void beatsAsked() {
        T.sentence("BEATS; -2: none comes; NONE: no such ones.");
        int[] usual = {3, 2, 60, 100};
        Edges.Call call = (e, a) -> e.beats(a[0], a[1], a[2], a[3]);
        T.range(TEXT, "beats", call, usual, 0, 0, 8);
        T.range(TEXT, "beats", call, usual, 1, 0, 5);
        T.range(TEXT, "beats", call, usual, 2, 1, 99);
        T.range(TEXT, "beats", call, usual, 3, 1, 9999);
    }

    private static void wholeBeats() {
        T.sentence("how many whole ones are over when the first RETURN to that place itself comes that is not straight;");
        EchoValley e = T.valley(STEPS);
        int[][] due = {{1, 800}, {2, 400}, {266, 3}, {267, 2}, {399, 2}, {400, 2}, {401, 1}, {799, 1}, {800, 1}, {801, 0}, {9999, 0}};
        for (int[] d : due) {
            T.due("800 by " + d[0], e.beats(2, 4, 99, d[0]), d[1]);
        }
        e.pace(3);
        T.due("2666 by 2666", e.beats(2, 4, 99, 2666), 1);
        T.due("2666 by 2667", e.beats(2, 4, 99, 2667), 0);
        EchoValley far = T.valley("map 40 1;pace 1;fall 99;wall a up 99 0 0 0;");
        T.due("the longest", far.beats(0, 0, 99, 1), 198000);
        T.due("by the longest", far.beats(0, 0, 99, 9999), 19);
    }

    private static void beatsOfTheFirst() {
        T.sentence("BEATS at a place, of so many TIMES each (1 .. 9999), of a loudness:");
        String[] texts = {"wall a up 9 0 9 0;wall b flat 7 0 9 0;", "wall b flat 7 0 9 0;wall a up 9 0 9 0;",
            "wall b flat 7 0 9 5;wall a up 9 0 9 0;"};
        for (String text : texts) {
            T.due("the first of " + text, T.valley(text).beats(5, 5, 30, 1), 400);
        }
        // The nearer one is too soft.
        EchoValley e = T.valley("wall b flat 7 0 9 5;wall a up 9 0 9 0;");
        T.due("of 6", e.beats(5, 5, 6, 1), 400);
        T.due("of 5", e.beats(5, 5, 5, 1), 800);
        T.due("of 1", e.beats(5, 5, 1, 1), 800);
        // The nearer one hides the farther one.
        e = T.valley("wall a up 9 0 9 0;wall b up 7 0 9 5;");
        T.due("of 6", e.beats(5, 5, 6, 1), 400);
        T.due("of 5", e.beats(5, 5, 5, 1), -2);
    }

    private static void noBeats() {
        T.sentence("-2: none comes. STAND for n beats:");
        EchoValley e = T.valley(STEPS);
        T.due("on the wall", e.beats(6, 3, 99, 1), -2);
        T.due("past its end", e.beats(2, 5, 99, 1), -2);
        T.due("no wall", new EchoValley().beats(0, 0, 99, 1), -2);
        EchoValley low = T.valley("map 8 6;fall 2;wall a up 6 0 4 0;");
        T.due("LOUD 0", low.beats(2, 4, 4, 1), -2);
        T.due("LOUD 1", low.beats(2, 4, 5, 1), 800);
        e.stands(0, false);
        T.due("taken away", e.beats(2, 4, 99, 1), -2);
    }

    // ---- promise 16

    private static void standAsked() {
        T.sentence("STAND: what 0 how many places, 1 the first: 100 * y + x (-2: none); NONE: no such ones (n 0 and more).");
        int[] usual = {1, 60, 100, 0};
        Edges.Call call = (e, a) -> e.stand(a[0], a[1], a[2], a[3]);
        T.range(TEXT, "stand", call, usual, 0, 0, MAX);
        T.range(TEXT, "stand", call, usual, 1, 1, 99);
        T.range(TEXT, "stand", call, usual, 2, 1, 9999);
        T.range(TEXT, "stand", call, usual, 3, 0, 1);
    }

    private static void standByBeats() {
        T.sentence("places of the MAP with n BEATS or more");
        EchoValley e = T.valley(STEPS);
        int[] by200 = {35, 35, 25, 20, 15, 10, 5, 0};
        int[] by201 = {35, 25, 20, 15, 10, 5, 0, 0};
        for (int n = 0; n < 8; n++) {
            T.due("beats of 200: " + n, e.stand(n, 99, 200, 0), by200[n]);
            T.due("beats of 201: " + n, e.stand(n, 99, 201, 0), by201[n]);
        }
        T.due("of most", e.stand(MAX, 99, 1, 0), 0);
        T.due("of most", e.stand(MAX, 99, 1, 1), -2);
        T.due("1200", e.stand(1200, 99, 1, 0), 5);
        T.due("1201", e.stand(1201, 99, 1, 0), 0);
        EchoValley all = T.valley("map 40 40;wall a up 45 0 45 0;fall 99;");
        EchoValley high = T.valley("map 3 7;fall 99;wall a up 9 0 9 0;");
        T.due("higher than wide", high.stand(0, 99, 1, 0), 21);
        T.due("higher than wide", high.stand(1400, 99, 1, 0), 21);
        T.due("higher than wide", high.stand(1800, 99, 1, 0), 7);
        T.due("all places", all.stand(0, 99, 9999, 0), 1600);
        T.due("all places", all.stand(12, 99, 100, 0), 1600);
        T.due("all but the last", all.stand(13, 99, 100, 0), 1560);
        T.due("one column", all.stand(90, 99, 100, 0), 40);
        T.due("none", all.stand(91, 99, 100, 0), 0);
    }

    private static void standFirst() {
        T.sentence("of those the first by y, then x. DEAF:");
        // In y 0 alone the flat wall is heard at 3, in y 2 .. 5 the up one.
        EchoValley e = T.valley("map 4 6;fall 99;wall a up 9 2 5 0;wall b flat 9 3 3 0;wall c flat 1 0 3 0;");
        e.stands(2, false);
        T.due("by y", e.stand(0, 99, 1, 1), 3);
        T.due("by y", e.stand(16, 99, 100, 1), Edges.code(3, 0));
        e.stands(1, false);
        T.due("then x", e.stand(0, 99, 1, 1), Edges.code(0, 2));
        T.due("then x", e.stand(14, 99, 100, 1), Edges.code(0, 2));
        e.move(0, 0);
        T.due("then x", e.stand(0, 99, 1, 1), Edges.code(1, 2));
        EchoValley last = T.valley("map 40 40;fall 99;wall a up 0 39 39 0;");
        T.due("the last place", last.stand(78, 99, 100, 1), Edges.code(39, 39));
        T.due("it is alone", last.stand(78, 99, 100, 0), 1);
    }

    private static void standWhereNoneComes() {
        T.sentence("(where none comes is no such one);");
        EchoValley e = T.valley(STEPS);
        T.due("n 0", e.stand(0, 99, 9999, 0), 35);
        T.due("n 0", e.stand(0, 99, 9999, 1), 0);
        EchoValley none = T.valley("map 3 3;");
        T.due("nowhere", none.stand(0, 99, 1, 0), 0);
        T.due("nowhere", none.stand(0, 99, 1, 1), -2);
        T.due("too low", T.valley("map 8 1;fall 1;wall a up 20 0 0 0;").stand(0, 26, 1, 0), 0);
        T.due("not too low", T.valley("map 8 1;fall 1;wall a up 20 0 0 0;").stand(0, 27, 1, 1), 7);
    }

    // ---- promises 17 and 18

    private static void deafAsked() {
        T.sentence("DEAF: what 0 how many places, 1 the first: 100 * y + x (-2: none); NONE: no such ones.");
        Edges.Call call = (e, a) -> e.deaf(a[0], a[1]);
        T.range(TEXT, "deaf", call, new int[2], 0, 0, 1);
        T.range(TEXT, "deaf", call, new int[2], 1, 0, 1);
        T.range(Edges.many("man m? 1 1 1;", 6), "deaf", call, new int[2], 0, 0, 5);
        T.due("no man", new EchoValley().deaf(0, 0), NONE);
    }

    private static void deafPlaces() {
        T.sentence("DEAF: places of the MAP to which nothing COMES from a MAN.");
        // Of LOUD 3 by 1 what is less than 3 long comes: not x 5, not y 3.
        EchoValley e = T.valley("map 6 4;fall 1;man m 2 0 3;man n 2 0 99;");
        T.due("how many", e.deaf(0, 0), 9);
        T.due("the first by y", e.deaf(0, 1), 5);
        T.due("of 99", e.deaf(1, 0), 0);
        // From (3, 1): four of twelve are 2 or more off.
        e = T.valley("map 4 3;fall 1;ear e 0 0;bell b 2 2 0;man m 3 1 2;");
        T.due("aside", e.deaf(0, 0), 6);
        T.due("aside", e.deaf(0, 1), 0);
        e = T.valley("map 3 4;fall 1;ear e 0 0;bell b 2 2 0;man m 1 3 2;");
        T.due("below", e.deaf(0, 0), 6);
        T.due("below", e.deaf(0, 1), 0);
        // All but the place itself.
        e = T.valley("map 3 3;fall 1;man m 0 0 1;man n 1 1 1;");
        T.due("of 1", e.deaf(0, 0), 8);
        T.due("of 1", e.deaf(0, 1), 1);
        T.due("from the middle", e.deaf(1, 1), 0);
        // Behind a wall nothing comes, but for what comes off another one.
        e = T.valley("map 5 1;man m 0 0 99;fall 99;wall b up 2 0 0 0;wall a flat 3 0 4 0;");
        T.due("off a", e.deaf(0, 0), 0);
        e.stands(1, false);
        T.due("behind b", e.deaf(0, 0), 2);
        T.due("on b it is heard", e.deaf(0, 1), 3);
        e = T.valley("map 40 40;man m 0 0 99;wall b flat 1 0 39 0;wall c flat 99 0 0 0;");
        T.due("as many as can be", e.deaf(0, 0), 1520);
        T.due("the first", e.deaf(0, 1), 200);
    }

    private static void deafNone() {
        T.sentence("100 * y + x (-2: none); NONE: no such ones. ## Promise 18");
        EchoValley e = T.valley("map 3 3;man m 1 1 99;");
        T.due("how many", e.deaf(0, 0), 0);
        T.due("the first", e.deaf(0, 1), -2);
        T.due("on one place", T.valley("map 1 1;man m 0 0 1;").deaf(0, 1), -2);
        T.due("what 2", e.deaf(0, 2), NONE);
        T.due("what -1", e.deaf(0, -1), NONE);
    }

    private static void louderAsked() {
        T.sentence("How many places are LOUDER than k (1 and more); NONE: no such ones.");
        Edges.Call call = (e, a) -> e.louder(a[0], a[1]);
        T.range(TEXT, "louder", call, new int[] {0, 1}, 0, 0, 1);
        T.range(TEXT, "louder", call, new int[] {0, 1}, 1, 1, MAX);
        T.due("no man", new EchoValley().louder(0, 1), NONE);
        T.due("k 0", T.valley("map 3 3;man m 0 0 9;").louder(0, 0), NONE);
        T.due("k MIN", T.valley("map 3 3;man m 0 0 9;").louder(0, MIN), NONE);
    }

    private static void louderThan() {
        T.sentence("LOUDER than k: places of the MAP to which something COMES from a MAN with LOUD k or more.");
        EchoValley e = T.valley("map 6 1;fall 1;man m 0 0 5;");
        int[] due = {5, 4, 3, 2, 1, 0, 0};
        for (int k = 1; k <= 7; k++) {
            T.due("k " + k, e.louder(0, k), due[k - 1]);
        }
        for (int k : new int[] {99, 100, 1000, 1 << 20, MAX - 1, MAX}) {
            T.due("k " + k, e.louder(0, k), 0);
        }
        e = T.valley("map 4 3;fall 1;ear e 0 0;bell b 2 2 0;man m 3 1 2;man n 1 0 2;");
        T.due("the place itself", e.louder(0, 2), 1);
        T.due("what is less than 2 off", e.louder(0, 1), 6);
        T.due("of the other man", e.louder(1, 1), 6);
        e = T.valley("map 3 4;fall 1;ear e 0 0;bell b 2 2 0;man m 1 3 3;");
        T.due("what is less than 3 off", e.louder(0, 1), 9);
        EchoValley most = T.valley("map 40 40;fall 1;man m 0 0 1;man n 0 0 99;");
        for (int k : new int[] {100, 1 << 30, MAX - 100, MAX - 50, MAX - 9, MAX - 1, MAX}) {
            T.due("k " + k, most.louder(0, k), 0);
            T.due("k " + k, most.louder(1, k), 0);
        }
        EchoValley all = T.valley("map 40 40;fall 99;man m 0 0 99;");
        T.due("99", all.louder(0, 99), 1600);
        T.due("100", all.louder(0, 100), 0);
        // Behind b only what comes off a, SOFT 3, is heard: of 9 less 4 or 5, less 3.
        e = T.valley("map 4 1;man m 0 0 9;fall 1;wall b up 2 0 0 0;wall a flat 2 0 4 3;");
        T.due("of 6", e.louder(0, 7), 3);
        T.due("of 2", e.louder(0, 2), 3);
        T.due("of 1", e.louder(0, 1), 4);
        // A later RETURN than the first is no louder, but what is louder may come later.
        e = T.valley("map 2 9;man m 0 4 50;fall 99;wall a up 5 0 9 40;wall b flat 9 0 9 5;wall c up 1 0 0 0;wall d flat 5 0 1 0;");
        T.due("of 50", e.louder(0, 50), 12);
    }

    // ---- promise 19

    private static void canonAsked() {
        T.sentence("CANON (n 1 .. 99); NONE: no such ones.");
        int[] usual = {3, 2, 60, 100, 5};
        int[] least = {0, 0, 1, 1, 1};
        int[] most = {8, 5, 99, 9999, 99};
        for (int i = 0; i < 5; i++) {
            T.range(TEXT, "canon", (e, a) -> e.canon(a[0], a[1], a[2], a[3], a[4]), usual, i, least[i], most[i]);
        }
    }

    private static void canonAtItOrBehind() {
        T.sentence("a RETURN to the place itself that is not straight comes, at it or less than GAP behind it.");
        // One RETURN, at 800.
        int[][] due = {{0, 799, 0}, {0, 800, 1}, {0, 801, 0}, {1, 799, 0}, {1, 800, 1}, {1, 801, 0}, {2, 799, 1}, {2, 798, 0},
            {100, 701, 1}, {100, 700, 0}, {100, 699, 0}, {100, 800, 1}, {100, 801, 0}, {9999, 1, 1}, {9999, 900, 0}, {800, 1, 1},
            {799, 1, 0}};
        for (int[] d : due) {
            EchoValley e = T.valley("wall a up 9 0 9 0;fall 99;gap " + d[0] + ";");
            T.due("gap " + d[0] + " beat " + d[1], e.canon(5, 5, 30, d[1], 1), d[2]);
        }
        EchoValley two = T.valley("wall a up 9 0 9 0;wall b flat 12 0 9 20;fall 99;gap 1;");
        T.due("at (6, 2): 600", two.canon(6, 2, 30, 600, 1), 1);
        T.due("at (6, 2): 2000", two.canon(6, 2, 30, 2000, 1), 1);
        T.due("at (6, 2): 600 alone", two.canon(6, 2, 20, 2000, 1), 0);
        T.due("at (2, 6): 1400", two.canon(2, 6, 30, 1400, 1), 1);
        T.due("at (2, 6): 1200", two.canon(2, 6, 30, 1200, 1), 1);
        T.due("at (2, 6): 600", two.canon(2, 6, 30, 600, 1), 0);
        T.due("straight is none", T.valley("gap 9999;").canon(5, 5, 30, 1, 99), 0);
        T.due("too low", T.valley("wall a up 9 0 9 0;fall 1;gap 9999;").canon(5, 5, 8, 1, 1), 0);
        T.due("not too low", T.valley("wall a up 9 0 9 0;fall 1;gap 9999;").canon(5, 5, 9, 1, 1), 1);
    }

    private static void canonToTheLast() {
        T.sentence("CANON of n beats: at how many of TIMES beat, 2 beats, .., n beats");
        EchoValley e = T.valley("wall a up 9 0 9 0;fall 99;gap 1;");
        T.due("7 times 100", e.canon(5, 5, 30, 100, 7), 0);
        T.due("8 times 100", e.canon(5, 5, 30, 100, 8), 1);
        T.due("99 times 100", e.canon(5, 5, 30, 100, 99), 1);
        T.due("98 times 8", e.canon(5, 5, 30, 8, 98), 0);
        T.due("99 times 8", e.canon(5, 5, 30, 8, 99), 0);
        EchoValley last = T.valley("map 40 1;wall a up 99 0 0 0;fall 99;gap 1;pace 2;");
        T.due("98 times 1000", last.canon(0, 0, 30, 1000, 98), 0);
        T.due("99 times 1000", last.canon(0, 0, 30, 1000, 99), 1);
        T.due("99 times 9999", last.canon(0, 0, 30, 9999, 99), 0);
        // One RETURN is within GAP of many.
        EchoValley wide = T.valley("wall a up 9 0 9 0;fall 99;gap 9999;");
        T.due("1 .. 99", wide.canon(5, 5, 30, 1, 99), 99);
        T.due("100 .. 800", wide.canon(5, 5, 30, 100, 99), 8);
        T.due("TIME 0 is none of them", wide.canon(5, 5, 30, 801, 99), 0);
    }

    // ---- promise 20

    private static void putAsked() {
        T.sentence("PUT: what 0 where, 1 how many are HEARD apart then; NONE: no such ones.");
        int[] most = {2, 1, 0, 1};
        for (int i = 0; i < 4; i++) {
            T.range(TEXT, "put", (e, a) -> e.put(a[0], a[1], a[2], a[3]), new int[4], i, 0, most[i]);
        }
        T.due("no wall", T.valley("man m 1 1 1;ear e 1 1;").put(0, 0, 0, 0), NONE);
        T.due("no man", T.valley("wall w up 1 1 1 1;ear e 1 1;").put(0, 0, 0, 0), NONE);
        T.due("no ear", T.valley("wall w up 1 1 1 1;man m 1 1 1;").put(0, 0, 0, 0), NONE);
    }

    private static void putPlaces() {
        T.sentence("of all places 0 .. 39 where it may stand that with the most RETURNS HEARD apart by an EAR from a MAN;");
        // From 2 on the echo is 7400 behind at 39, and 7600 at 40.
        String text = "map 40 2;man m 2 1 99;ear e 2 1;fall 99;wall a up 2 0 9 0;gap ";
        T.due("39", T.valley(text + "7400;").put(0, 0, 0, 0), 39);
        T.due("39", T.valley(text + "7400;").put(0, 0, 0, 1), 2);
        T.due("not 40", T.valley(text + "7401;").put(0, 0, 0, 0), 0);
        T.due("not 40", T.valley(text + "7401;").put(0, 0, 0, 1), 1);
        String from = "map 40 2;man m 39 1 99;ear e 39 1;fall 99;wall a up 2 0 9 0;gap ";
        T.due("0 alone", T.valley(from + "7800;").put(0, 0, 0, 0), 0);
        T.due("0 alone", T.valley(from + "7800;").put(0, 0, 0, 1), 2);
        T.due("none at all", T.valley(from + "7801;").put(0, 0, 0, 1), 1);
        // Flat, with the ends and the softness that it has.
        String flat = "map 2 40;man m 1 2 99;ear e 1 2;fall 99;wall a flat 2 1 9 0;gap 7400;";
        T.due("flat", T.valley(flat).put(0, 0, 0, 0), 39);
        T.due("too short", T.valley(flat.replace("2 1 9 0", "2 2 9 0")).put(0, 0, 0, 1), 1);
        T.due("too soft", T.valley(flat.replace("2 1 9 0", "2 1 9 99")).put(0, 0, 0, 1), 1);
        // Off the MAP too.
        T.due("off the MAP", T.valley("map 3 1;man m 2 0 99;ear e 2 0;fall 99;gap 7400;wall a up 2 0 0 0;").put(0, 0, 0, 0), 39);
    }

    private static void putLeast() {
        T.sentence("of alike ones the least. HUSH:");
        String text = "map 20 2;man m 5 1 99;ear e 5 1;fall 99;wall a up 9 0 9 0;gap ";
        T.due("600: 0 .. 2 and 8 on", T.valley(text + "600;").put(0, 0, 0, 0), 0);
        T.due("1000: 0 and 10 on", T.valley(text + "1000;").put(0, 0, 0, 0), 0);
        T.due("1001: 11 on", T.valley(text + "1001;").put(0, 0, 0, 0), 11);
        T.due("1200: 11 on", T.valley(text + "1200;").put(0, 0, 0, 0), 11);
        T.due("1201: 12 on", T.valley(text + "1201;").put(0, 0, 0, 0), 12);
        T.due("none comes", T.valley("map 9 1;man m 8 0 1;ear e 0 0;fall 1;wall a up 4 0 0 0;").put(0, 0, 0, 0), 0);
        T.due("none comes", T.valley("map 9 1;man m 8 0 1;ear e 0 0;fall 1;wall a up 4 0 0 0;").put(0, 0, 0, 1), 0);
        // Between the two it is in the way: best it stands behind the ear or ahead of the man.
        T.due("not between", T.valley("map 9 1;man m 4 0 99;ear e 0 0;fall 99;gap 1;wall a up 2 0 0 0;").put(0, 0, 0, 0), 5);
        T.due("the least where 1 is heard", T.valley("map 9 1;man m 4 0 99;ear e 0 0;fall 99;gap 9999;wall a up 2 0 0 0;").put(0, 0, 0, 0), 0);
    }

    private static void putStays() {
        T.sentence("(It stays where it is.)");
        EchoValley e = T.valley(TEXT);
        e.stands(2, false);
        String before = Edges.state(e);
        for (int wall = 0; wall < 3; wall++) {
            int where = e.put(wall, 0, 0, 0);
            T.due("a place", where >= 0 && where <= 39, true);
            T.due("how many", e.put(wall, 0, 0, 1) >= 1, true);
            e.put(wall, 9, 0, 0);
        }
        T.due("all stay", Edges.state(e), before);
        e.move(0, 99);
        e.put(0, 0, 0, 0);
        T.due("where", e.wall(0, 1), 99);
        // As many as are heard if it is moved there.
        int where = e.put(0, 0, 0, 0);
        int many = e.put(0, 0, 0, 1);
        e.move(0, where);
        T.due("moved there", e.heard(0, 0), many);
    }

    private static void putByManAndEar() {
        T.sentence("with the most RETURNS HEARD apart by an EAR from a MAN;");
        // From 2 to 8 it is 1000 behind from 13 on: 16 long, not 6. From 4 to 0 it is from 9 on: 14 long, not 4.
        EchoValley e = T.valley("map 30 3;fall 99;gap 1000;man m 2 0 99;man n 4 1 99;ear e 8 0;ear f 0 1;wall a up 1 0 9 0;");
        T.due("2 to 8", e.put(0, 0, 0, 0), 13);
        T.due("2 to 0 aslant", e.put(0, 0, 1, 0), 8);
        T.due("4 to 8 aslant", e.put(0, 1, 0, 0), 14);
        T.due("4 to 0", e.put(0, 1, 1, 0), 9);
    }

    private static void hushByManAndEar() {
        T.sentence("without which nothing but straight COMES from a MAN to an EAR;");
        // a is heard in y 3 alone, b in y 7 alone.
        EchoValley e = T.valley("man m 2 3 99;man n 4 7 99;ear e 5 7;ear f 1 3;wall a up 9 3 3 0;wall b up 9 7 7 0;wall c up 9 5 5 0;");
        T.due("m to e", e.hush(0, 0), 0);
        T.due("m to f", e.hush(0, 1), 1);
        T.due("n to e", e.hush(1, 0), 2);
        T.due("n to f", e.hush(1, 1), 0);
        // m is too low for b, n is not.
        e = T.valley("man m 2 3 1;man n 2 3 9;ear e 2 3;ear f 2 4;wall b up 9 0 9 0;");
        T.due("m to e", e.hush(0, 0), 0);
        T.due("m to f", e.hush(0, 1), 0);
        T.due("n to e", e.hush(1, 0), 1);
        T.due("n to f", e.hush(1, 1), 1);
    }

    private static void putTakenAway() {
        T.sentence("PUT of a WALL (as if it were there, also if it is taken away):");
        // Off a place behind b nothing comes; off both it is 1600 at the most.
        EchoValley e = T.valley("map 20 2;man m 5 1 99;ear e 5 1;fall 99;gap 1700;wall a up 9 0 9 0;wall b up 8 0 9 0;");
        T.due("b is there", e.put(0, 0, 0, 1), 1);
        e.stands(0, false);
        T.due("a is away", e.put(0, 0, 0, 1), 1);
        e.stands(1, false);
        T.due("b is away too", e.put(0, 0, 0, 0), 14);
        T.due("how many", e.put(0, 0, 0, 1), 2);
        T.due("a stays away", e.wall(0, 5), 0);
        T.due("b stays away", e.wall(1, 5), 0);
        T.due("where", e.wall(0, 1), 9);
        T.due("nothing comes off it", e.heard(0, 0), 1);
        e.stands(0, true);
        T.due("a is there", e.put(0, 0, 0, 0), 14);
        T.due("a stays there", e.wall(0, 5), 1);
    }

    // ---- promise 21

    private static void hushAsked() {
        T.sentence("HUSH (bits); NONE: no such ones.");
        T.range(TEXT, "hush", (e, a) -> e.hush(a[0], a[1]), new int[2], 0, 0, 1);
        T.range(TEXT, "hush", (e, a) -> e.hush(a[0], a[1]), new int[2], 1, 0, 0);
        T.due("no man", T.valley("ear e 1 1;").hush(0, 0), NONE);
        T.due("no ear", T.valley("man m 1 1 1;").hush(0, 0), NONE);
        T.due("no wall", T.valley("man m 1 1 1;ear e 1 1;").hush(0, 0), 0);
    }

    private static void hushFewest() {
        T.sentence("HUSH: the fewest WALLS (of those that are there) without which nothing but straight COMES from a MAN to an EAR;");
        String folk = "man m 3 4 30;ear e 3 4;";
        T.due("none", T.valley(folk).hush(0, 0), 0);
        T.due("straight is no matter", T.valley(folk + "wall a up 9 9 9 0;").hush(0, 0), 0);
        T.due("one", T.valley(folk + "wall a up 9 0 9 0;").hush(0, 0), 1);
        T.due("two", T.valley(folk + "wall a up 9 0 9 0;wall b flat 9 0 9 0;").hush(0, 0), 3);
        T.due("the second", T.valley(folk + "wall a up 9 9 9 0;wall b flat 9 0 9 0;").hush(0, 0), 2);
        T.due("one behind the other", T.valley(folk + "wall a up 5 0 19 0;wall b up 8 0 19 0;").hush(0, 0), 3);
        T.due("too soft to be heard", T.valley(folk + "wall a up 5 0 19 0;wall b up 8 0 19 28;").hush(0, 0), 3);
        T.due("too soft to be heard", T.valley(folk + "wall a up 5 0 19 0;wall b up 8 0 19 29;").hush(0, 0), 1);
        T.due("LOUD 0", T.valley("man m 3 4 1;ear e 3 4;wall a up 8 0 9 0;").hush(0, 0), 0);
        T.due("LOUD 1", T.valley("man m 3 4 2;ear e 3 4;wall a up 8 0 9 0;").hush(0, 0), 1);
        T.due("all eight", T.valley(folk + Edges.many("wall w? up 9 0 9 0;", 8)).hush(0, 0), 255);
        // A wall that is away opens a way for none, though straight comes then.
        T.due("straight is blocked", T.valley("man m 3 4 30;ear e 7 4;wall a up 5 0 9 0;").hush(0, 0), 0);
        // a alone is on each way: off a and b, off a and c.
        T.due("one for all", T.valley("man m 3 4 30;ear e 5 2;wall b flat 0 0 3 0;wall a up 0 0 2 0;wall c flat 0 0 3 0;").hush(0, 0), 2);
        // Two are fewer than three, with greater bits.
        T.due("fewest before least", T.valley("man m 3 4 30;ear e 5 2;wall b flat 0 0 3 0;wall c flat 0 0 3 0;wall a up 0 0 2 0;"
            + "wall d flat 0 0 3 0;").hush(0, 0), 4);
    }

    private static void hushLeastBits() {
        T.sentence("of alike ones the least bits.");
        String folk = "man m 3 4 30;ear e 5 2;";
        String a = "wall a up 0 0 2 0;";
        String b = "wall b flat 0 0 3 0;";
        String other = "wall c up 19 0 0 0;";
        T.due("off both: either one", T.valley(folk + a + b).hush(0, 0), 1);
        T.due("the other way round", T.valley(folk + b + a).hush(0, 0), 1);
        T.due("behind another one", T.valley(folk + other + a + b).hush(0, 0), 2);
        T.due("one between", T.valley(folk + b + other + a).hush(0, 0), 1);
    }

    private static void hushOfThoseThere() {
        T.sentence("(of those that are there)");
        EchoValley e = T.valley("man m 3 4 30;ear e 3 4;wall a up 5 0 19 0;wall b up 8 0 19 0;wall c flat 8 0 19 0;");
        T.due("all", e.hush(0, 0), 7);
        e.stands(0, false);
        T.due("a is away", e.hush(0, 0), 6);
        e.stands(2, false);
        T.due("c is away", e.hush(0, 0), 2);
        e.stands(1, false);
        T.due("all are away", e.hush(0, 0), 0);
        e.stands(0, true);
        T.due("a is there", e.hush(0, 0), 1);
        e.stands(2, true);
        T.due("a and c", e.hush(0, 0), 5);
        e = T.valley("man m 3 4 30;ear e 3 4;" + Edges.many("wall w? up 9 0 9 0;", 8));
        e.stands(3, false);
        T.due("all but one", e.hush(0, 0), 255 - 8);
        e.stands(7, false);
        T.due("all but two", e.hush(0, 0), 127 - 8);
    }

    private static void hushStays() {
        T.sentence("(They stay.)");
        EchoValley e = T.valley(TEXT);
        e.stands(1, false);
        String before = Edges.state(e);
        e.hush(0, 0);
        e.hush(1, 0);
        e.hush(2, 0);
        T.due("all are as they were", Edges.state(e), before);
        T.due("what comes", e.returns(3, 2, 5, 3, 60), T.valley(TEXT.replace("wall b flat 0 0", "wall b flat 99 99")
            .replace("99 9 0", "99 99 0")).returns(3, 2, 5, 3, 60));
    }

    // ---- promise 22

    private static void whoseAsked() {
        T.sentence("WHOSE (bits); NONE: no such EAR.");
        T.range(TEXT, "whose", (e, a) -> e.whose(a[0], a[1]), new int[2], 0, 0, 0);
        T.range(Edges.many("ear e? 1 1;", 6), "whose", (e, a) -> e.whose(a[0], a[1]), new int[2], 0, 0, 5);
        T.due("no ear", T.valley("man m 1 1 1;").whose(0, 0), NONE);
        T.due("no man", T.valley("ear e 1 1;").whose(0, 0), 0);
        EchoValley e = T.valley("man m 1 1 9;man n 9 1 1;ear e 1 1;fall 1;");
        for (int time : new int[] {1, 99, 10000, MAX}) {
            T.due("at " + time, e.whose(0, time), 0);
        }
        T.due("at 0", e.whose(0, 0), 1);
        T.due("of nine far nothing comes", e.whose(0, 800), 0);
    }

    private static void whoseBits() {
        T.sentence("WHOSE: MEN whose first RETURN at an EAR is at a TIME.");
        EchoValley e = T.valley("map 20 20;fall 99;man a 5 5 9;man b 0 5 9;man c 8 9 9;man d 5 0 9;man f 9 2 9;man g 10 5 9;ear y 0 5;ear x 5 5;ear z 5 2;");
        T.due("at 500", e.whose(1, 500), 2 + 4 + 8 + 16 + 32);
        T.due("at 499", e.whose(1, 499), 0);
        T.due("at 501", e.whose(1, 501), 0);
        T.due("at 0", e.whose(1, 0), 1);
        T.due("at another ear", e.whose(0, 0), 2);
        T.due("at another ear", e.whose(0, 500), 1);
        T.due("at another ear", e.whose(0, 1000), 32);
        T.due("aslant", e.whose(0, 894), 4);
        T.due("at the third ear", e.whose(2, 300), 1);
        T.due("at the third ear", e.whose(2, 200), 8);
        T.due("at the third ear", e.whose(2, 400), 16);
        // The first RETURN alone; straight or not.
        e = T.valley("fall 99;man a 5 5 9;man b 5 7 9;ear x 5 5;wall w up 9 0 19 0;wall v flat 6 0 5 0;");
        T.due("straight", e.whose(0, 0), 1);
        T.due("the second", e.whose(0, 200), 0);
        T.due("the third", e.whose(0, 800), 0);
        T.due("b is behind v", e.whose(0, 200), 0);
        T.due("off w", e.whose(0, 824), 2);
    }

    // ---- promises 23 and 24

    private static void alongAsked() {
        T.sentence("ALONG: the i-th (0 .. 99); -3: it is not on the MAP; NONE: no such ones (dx, dy -40 .. 40).");
        int[] usual = {3, 2, 1, 1, 60, 1};
        int[] least = {0, 0, -40, -40, 1, 0};
        int[] most = {8, 5, 40, 40, 99, 99};
        for (int i = 0; i < 6; i++) {
            T.range(TEXT, "along", (e, a) -> e.along(a[0], a[1], a[2], a[3], a[4], a[5]), usual, i, least[i], most[i]);
        }
    }

    private static void alongOffTheMap() {
        T.sentence("ALONG: places from (x, y) on, each (dx, dy) further: BEATS' first RETURN to the i-th one (from 0 on), its TIME (-2: none comes).");
        EchoValley e = T.valley(STEPS);
        int[] due = {1200, 1000, 800, 600, 400, 200, -2, 200, -3, -3};
        for (int i = 0; i < due.length; i++) {
            T.due("to the right " + i, e.along(0, 3, 1, 0, 99, i), due[i]);
            T.due("to the left " + i, e.along(7, 3, -1, 0, 99, i), i < 8 ? due[7 - i] : -3);
            T.due("down " + i, e.along(2, 0, 0, 1, 99, i), i < 5 ? 800 : i == 5 ? -2 : -3);
            T.due("up " + i, e.along(2, 5, 0, -1, 99, i), i == 0 ? -2 : i <= 5 ? 800 : -3);
            T.due("aslant " + i, e.along(0, 0, 1, 1, 99, i), i < 5 ? due[i] : i == 5 ? -2 : -3);
            T.due("stays " + i, e.along(5, 4, 0, 0, 99, 11 * i), 200);
        }
        T.due("by 7", e.along(0, 3, 7, 0, 99, 1), 200);
        T.due("by 8", e.along(0, 3, 8, 0, 99, 1), -3);
        T.due("by 5 and 4", e.along(0, 0, 5, 4, 99, 1), 200);
        T.due("by 5 and 6", e.along(0, 0, 5, 6, 99, 1), -3);
        T.due("far", e.along(0, 0, 40, 40, 99, 99), -3);
        T.due("far", e.along(7, 5, -40, -40, 99, 99), -3);
        T.due("begun off the MAP", e.along(-1, 0, 1, 0, 99, 1), NONE);
        EchoValley low = T.valley(STEPS.replace("fall 99", "fall 2"));
        int[] of4 = {-2, -2, -2, 600, 400, 200, -2, 200};
        for (int i = 0; i < of4.length; i++) {
            T.due("of 4: " + i, low.along(0, 3, 1, 0, 4, i), of4[i]);
        }
        EchoValley great = T.valley("map 40 40;fall 99;wall a up 99 0 99 0;");
        T.due("from edge to edge", great.along(0, 0, 39, 39, 99, 1), 12000);
        T.due("over the edge", great.along(0, 0, 40, 39, 99, 1), -3);
        T.due("from edge to edge", great.along(39, 39, -39, -39, 99, 1), 19800);
        T.due("over the edge", great.along(39, 39, -39, -40, 99, 1), -3);
    }

    private static void nearestAsked() {
        T.sentence("NEAREST of n (1 .. 100), those not on the MAP aside; -2: none comes; NONE likewise.");
        int[] usual = {3, 2, 1, 1, 60, 3};
        int[] least = {0, 0, -40, -40, 1, 1};
        int[] most = {8, 5, 40, 40, 99, 100};
        for (int i = 0; i < 6; i++) {
            T.range(TEXT, "nearest", (e, a) -> e.nearest(a[0], a[1], a[2], a[3], a[4], a[5]), usual, i, least[i], most[i]);
        }
    }

    private static void nearestOfAlikeOnes() {
        T.sentence("NEAREST of n: that with the least TIME; of alike ones the first.");
        EchoValley e = T.valley(STEPS);
        int[] due = {0, 1, 2, 3, 4, 5, 5, 5, 5, 5};
        for (int n = 1; n <= 10; n++) {
            T.due("of " + n, e.nearest(0, 3, 1, 0, 99, n), due[n - 1]);
        }
        T.due("back: 7 and 5 are alike", e.nearest(7, 3, -1, 0, 99, 100), 0);
        T.due("down", e.nearest(2, 0, 0, 1, 99, 100), 0);
        T.due("stays", e.nearest(2, 0, 0, 0, 99, 100), 0);
        T.due("all alike but the first, where none comes", e.nearest(2, 5, 0, -1, 99, 100), 1);
    }

    private static void nearestOnTheMap() {
        T.sentence("those not on the MAP aside; -2: none comes;");
        EchoValley e = T.valley(STEPS);
        T.due("off the MAP at once", e.nearest(0, 3, -1, 0, 99, 100), 0);
        T.due("none comes, then off the MAP", e.nearest(6, 0, 0, 1, 99, 100), -2);
        T.due("none comes to the first one", e.nearest(2, 5, 0, -1, 99, 1), -2);
        T.due("but to the second", e.nearest(2, 5, 0, -1, 99, 2), 1);
        T.due("none comes to the first one, off the MAP", e.nearest(2, 5, 40, 40, 99, 100), -2);
        T.due("no wall", new EchoValley().nearest(0, 0, 1, 1, 99, 100), -2);
        EchoValley low = T.valley(STEPS.replace("fall 99", "fall 2"));
        T.due("of 4", low.nearest(0, 3, 1, 0, 4, 3), -2);
        T.due("of 4", low.nearest(0, 3, 1, 0, 4, 4), 3);
        T.due("of 5", low.nearest(0, 3, 1, 0, 5, 3), 2);
        T.due("of 1", low.nearest(0, 3, 1, 0, 1, 100), -2);
        EchoValley great = T.valley("map 40 1;fall 99;wall a up 40 0 0 0;");
        T.due("the last of forty", great.nearest(0, 0, 1, 0, 99, 100), 39);
        T.due("of thirty nine", great.nearest(0, 0, 1, 0, 99, 39), 38);
    }

    // ---- promises 25 and 26

    private static void firstAsked() {
        T.sentence("FIRST: what 0 the BELL, 1 when it is heard; -2: none is; NONE: no such ones.");
        int[] most = {8, 5, 1};
        for (int i = 0; i < 3; i++) {
            T.range(TEXT, "first", (e, a) -> e.first(a[0], a[1], a[2]), new int[3], i, 0, most[i]);
        }
    }

    private static void firstOfAlikeOnes() {
        T.sentence("when it rings and the least TIME of a RETURN; of alike ones the least number.");
        EchoValley e = T.valley("map 9 1;fall 99;bell a 0 0 300;bell b 6 0 0;bell c 6 0 0;");
        int[] bell = {0, 0, 1, 1, 1, 1, 1, 1, 1};
        int[] when = {300, 400, 400, 300, 200, 100, 0, 100, 200};
        for (int x = 0; x < 9; x++) {
            T.due("at " + x, e.first(x, 0, 0), bell[x]);
            T.due("when at " + x, e.first(x, 0, 1), when[x]);
        }
        e = T.valley("map 9 1;fall 99;bell a 8 0 0;bell b 0 0 0;bell c 4 0 400;");
        T.due("three alike", e.first(4, 0, 0), 0);
        T.due("when", e.first(4, 0, 1), 400);
        T.due("one later", e.first(3, 0, 0), 1);
        T.due("one later", e.first(5, 0, 0), 0);
        e = T.valley("map 9 1;fall 99;bell a 8 0 1;bell b 0 0 0;");
        T.due("by one", e.first(4, 0, 0), 1);
        T.due("the sixth", T.valley(Edges.many("bell b? 0 0 9;", 5) + "bell z 0 0 8;").first(0, 0, 0), 5);
        T.due("latest", T.valley("bell z 0 0 9999;").first(0, 0, 1), 9999);
        // Straight is blocked: off the flat wall it comes later than the other bell.
        e = T.valley("map 9 2;fall 99;bell a 2 0 0;bell b 8 0 100;wall w up 4 0 0 0;wall v flat 2 0 9 0;");
        T.due("off v", e.first(5, 0, 0), 1);
        T.due("off v", e.first(5, 0, 1), 400);
        e.move(0, 0);
        T.due("straight", e.first(5, 0, 0), 0);
        T.due("straight", e.first(5, 0, 1), 300);
    }

    private static void firstNone() {
        T.sentence("-2: none is; NONE: no such ones. ## Promise 26");
        T.due("no bell", new EchoValley().first(0, 0, 0), -2);
        T.due("no bell", new EchoValley().first(19, 19, 1), -2);
        T.due("no bell, no such place", new EchoValley().first(20, 0, 1), NONE);
        T.due("no bell, no such what", new EchoValley().first(0, 0, 2), NONE);
        EchoValley e = T.valley("map 9 1;bell a 0 0 0;wall w up 4 0 0 0;");
        T.due("behind a wall", e.first(5, 0, 0), -2);
        T.due("behind a wall", e.first(5, 0, 1), -2);
        T.due("at it", e.first(4, 0, 1), 400);
    }

    private static void asLoudAs99() {
        T.sentence("FIRST of BELLS at a place: that of which the first sound (all are as loud as 99) COMES soonest:");
        // Off a it is 71.5 long; straight is blocked by b.
        String text = "map 40 40;fall 1;bell z 0 0 7;wall b flat 20 0 0 0;wall a up 30 0 39 ";
        T.due("LOUD 1", T.valley(text + "27;").first(0, 39, 1), 7163);
        T.due("LOUD 1", T.valley(text + "27;").first(0, 39, 0), 0);
        T.due("LOUD 0", T.valley(text + "28;").first(0, 39, 1), -2);
        T.due("LOUD 0", T.valley(text + "28;").first(0, 39, 0), -2);
    }

    private static void crossAsked() {
        T.sentence("CROSS: what 0 how many places, 1 the first: 100 * y + x (-2: none); NONE: no such ones, one and the same (g 0 and more).");
        int[] usual = {0, 3, 50, 0};
        Edges.Call call = (e, a) -> e.cross(a[0], a[1], a[2], a[3]);
        T.range(TEXT, "cross", call, usual, 0, 0, 2);
        T.range(TEXT, "cross", call, new int[] {3, 0, 50, 0}, 1, 0, 2);
        T.range(TEXT, "cross", call, usual, 2, 0, MAX);
        T.range(TEXT, "cross", call, usual, 3, 0, 1);
        EchoValley e = T.valley(TEXT);
        for (int bell = 0; bell < 4; bell++) {
            T.due("one and the same", e.cross(bell, bell, 9, 0), NONE);
            T.due("one and the same", e.cross(bell, bell, 9, 1), NONE);
        }
        T.due("no bells", new EchoValley().cross(0, 1, 9, 0), NONE);
        T.due("no second bell", T.valley("bell a 0 0 0;").cross(0, 1, 9, 0), NONE);
    }

    private static void crossWithin() {
        T.sentence("CROSS of two BELLS within g: places of the MAP where both COME, first sounds no more than g apart.");
        // Apart: 500, 300, 100, 100, 300, 500, 700, 700.
        EchoValley e = T.valley("map 8 1;fall 99;bell a 0 0 100;bell b 6 0 0;bell c 6 0 9999;");
        int[][] due = {{0, 0, -2}, {99, 0, -2}, {100, 2, 2}, {299, 2, 2}, {300, 4, 1}, {499, 4, 1}, {500, 6, 0}, {699, 6, 0}, {700, 8, 0},
            {9999, 8, 0}, {MAX, 8, 0}};
        for (int[] d : due) {
            T.due("within " + d[0], e.cross(0, 1, d[0], 0), d[1]);
            T.due("within " + d[0], e.cross(0, 1, d[0], 1), d[2]);
            T.due("turned, within " + d[0], e.cross(1, 0, d[0], 0), d[1]);
            T.due("turned, within " + d[0], e.cross(1, 0, d[0], 1), d[2]);
        }
        T.due("9998", e.cross(1, 2, 9998, 0), 0);
        T.due("9999", e.cross(1, 2, 9999, 0), 8);
        T.due("no more than 0", T.valley("map 8 1;fall 99;bell a 0 0 0;bell b 6 0 0;").cross(0, 1, 0, 1), 3);
        // By y, then x: between them in y 0 .. 2.
        e = T.valley("map 5 3;fall 99;bell a 0 2 0;bell b 4 0 0;");
        T.due("as far", e.cross(0, 1, 0, 0), 1);
        T.due("as far", e.cross(0, 1, 0, 1), Edges.code(2, 1));
        e = T.valley("map 5 5;fall 99;bell a 0 0 0;bell b 4 4 0;");
        T.due("across", e.cross(0, 1, 0, 0), 5);
        T.due("the first by y", e.cross(0, 1, 0, 1), 4);
    }

    private static void crossBothCome() {
        T.sentence("places of the MAP where both COME,");
        EchoValley e = T.valley("map 8 2;fall 99;bell a 0 0 0;bell b 7 0 0;wall w up 3 0 1 0;");
        T.due("on the wall alone", e.cross(0, 1, MAX, 0), 2);
        T.due("on the wall alone", e.cross(0, 1, MAX, 1), 3);
        T.due("not at one time", e.cross(0, 1, 99, 0), 1);
        T.due("not at one time", e.cross(0, 1, 99, 1), 103);
        T.due("412 less 316", e.cross(0, 1, 96, 1), 103);
        T.due("412 less 316", e.cross(0, 1, 95, 1), -2);
        e.stands(0, false);
        T.due("all", e.cross(0, 1, MAX, 0), 16);
    }

    // ---- promise 27

    private static void chirpAsked() {
        T.sentence("CHIRP; NONE: far or tread not 1 .. 999, i not 1 .. 99.");
        int[] most = {999, 999, 99};
        for (int i = 0; i < 3; i++) {
            T.range(TEXT, "chirp", (e, a) -> e.chirp(a[0], a[1], a[2]), new int[] {5, 5, 5}, i, 1, most[i]);
        }
    }

    private static void stairs() {
        T.sentence("STAIRS: steps far, far + tread, far + 2 tread, .. straight ahead:");
        int[][] all = {{1, 1}, {999, 999}, {10, 2}, {7, 13}, {999, 1}, {1, 999}};
        for (int pace : new int[] {1, 7, 10, 98, 99}) {
            EchoValley e = T.valley("pace " + pace + ";");
            for (int[] s : all) {
                for (int i : new int[] {1, 2, 3, 50, 98, 99}) {
                    int due = 2000 * (s[0] + i * s[1]) / pace - 2000 * (s[0] + i * s[1] - s[1]) / pace;
                    T.due("chirp " + s[0] + " " + s[1] + " " + i + " by " + pace, e.chirp(s[0], s[1], i), due);
                }
            }
        }
        T.due("walls are no matter", T.valley("wall a up 1 0 9 0;wall b flat 1 0 9 0;").chirp(10, 2, 1), 400);
    }

    private static void chirpRounded() {
        T.sentence("TIME of the i-th: 1000 times twice as far by PACE, rounded down. CHIRP of i (1 and more): TIME of the i-th less that of the one ahead.");
        EchoValley e = T.valley("pace 7;");
        int[] due = {286, 286, 285, 286, 286, 286, 285};
        for (int i = 1; i <= 7; i++) {
            T.due("by 7: " + i, e.chirp(1, 1, i), due[i - 1]);
        }
        T.due("the first step", e.chirp(2, 1, 1), 286);
        T.due("far is no matter but for rounding", e.chirp(3, 1, 1), 285);
        T.due("by 2", e.chirp(1, 2, 1), 857 - 285);
        e.pace(1);
        T.due("most", e.chirp(999, 999, 99), 1998000);
        T.due("least", e.chirp(1, 1, 99), 2000);
        e.pace(99);
        T.due("least", e.chirp(1, 1, 1), 20);
        T.due("2020.2 less 2000", e.chirp(99, 1, 1), 20);
        T.due("2000 less 1979.8", e.chirp(98, 1, 1), 21);
        T.due("most", e.chirp(999, 999, 99), 2018181 - 1998000);
    }

    // ---- NONE and -2

    private static void noneAheadOfMinusTwo() {
        T.sentence("Where NONE and -2 could both be told, it is NONE, if it is not told otherwise.");
        EchoValley e = T.valley("map 3 3;man m 0 0 9;ear e 2 2;bell a 0 0 0;bell b 1 1 9;wall w up 9 9 9 9;");
        T.due("beats", e.beats(0, 0, 9, 1), -2);
        T.due("beats", e.beats(0, 0, 9, 0), NONE);
        T.due("beats", e.beats(3, 0, 9, 1), NONE);
        T.due("stand", e.stand(0, 9, 1, 1), -2);
        T.due("stand", e.stand(-1, 9, 1, 1), NONE);
        T.due("deaf", e.deaf(0, 1), -2);
        T.due("deaf", e.deaf(1, 1), NONE);
        T.due("nearest", e.nearest(0, 0, 1, 0, 9, 9), -2);
        T.due("nearest", e.nearest(0, 0, 1, 0, 9, 0), NONE);
        T.due("along", e.along(0, 0, 1, 0, 9, 1), -2);
        T.due("along", e.along(0, 0, 1, 0, 0, 1), NONE);
        T.due("along, off the MAP", e.along(0, 0, 1, 0, 9, 3), -3);
        T.due("along, off the MAP", e.along(0, 0, 1, 0, 100, 3), NONE);
        T.due("along, off the MAP", e.along(0, 0, 1, 0, 9, 100), NONE);
        T.due("cross", e.cross(0, 1, 0, 1), -2);
        T.due("cross", e.cross(0, 1, -1, 1), NONE);
        T.due("cross", e.cross(0, 2, 0, 1), NONE);
        T.due("touch", e.touch(0, 0, 1, 1, 10, 0, true), -2);
        T.due("touch", e.touch(0, 0, 1, 1, 11, 0, true), NONE);
        T.due("touch", e.touch(0, 0, 1, 1, 10, 1, true), NONE);
        T.due("touch", e.touch(0, 0, 1, 3, 10, 0, true), NONE);
        T.due("next", e.next(1, 9), NONE);
        T.due("step", e.step(1, 9), NONE);
        e.tell(0, 0, 9, 1);
        e.shout(0, 0, 9, 1);
        T.due("next", e.next(1, 9), -2);
        T.due("next", e.next(1, 0), NONE);
        T.due("next", e.next(2, 9), NONE);
        T.due("step", e.step(1, 9), -2);
        T.due("step", e.step(1, 100), NONE);
        T.due("step", e.step(2, 9), NONE);
    }
}
