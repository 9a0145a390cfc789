import java.math.BigInteger;
import java.util.ArrayList;
import java.util.Comparator;
import java.util.HashMap;
import java.util.LinkedHashMap;
import java.util.List;
import java.util.Map;

/**
 * The document once more, written for plainness alone: fractions, lists and records, each answer
 * worked out anew. It bears the class's face, so that runs of calls can be put to both.
 */
public final class Model {
    /** A fraction in lowest terms, d above 0. */
    record Frac(BigInteger n, BigInteger d) implements Comparable<Frac> {
        static Frac of(long n) {
            return new Frac(BigInteger.valueOf(n), BigInteger.ONE);
        }

        static Frac of(BigInteger n, BigInteger d) {
            BigInteger g = n.gcd(d);
            if (d.signum() < 0) {
                g = g.negate();
            }
            return new Frac(n.divide(g), d.divide(g));
        }

        Frac plus(Frac o) {
            return of(n.multiply(o.d).add(o.n.multiply(d)), d.multiply(o.d));
        }

        Frac minus(Frac o) {
            return of(n.multiply(o.d).subtract(o.n.multiply(d)), d.multiply(o.d));
        }

        Frac times(Frac o) {
            return of(n.multiply(o.n), d.multiply(o.d));
        }

        Frac over(Frac o) {
            return of(n.multiply(o.d), d.multiply(o.n));
        }

        int sign() {
            return n.signum();
        }

        public int compareTo(Frac o) {
            return minus(o).sign();
        }

        int thousandths() {
            BigInteger[] parts = n.multiply(BigInteger.valueOf(1000)).divideAndRemainder(d);
            return parts[0].intValueExact() - (parts[1].signum() < 0 ? 1 : 0);
        }
    }

    record Point(Frac x, Frac y) { }

    record Wall(boolean flat, int where, int from, int to, int soft, boolean there) {
        Frac across(Point p) {
            return flat ? p.y : p.x;
        }

        Frac along(Point p) {
            return flat ? p.x : p.y;
        }

        Point image(Point p) {
            Frac over = Frac.of(2L * where).minus(across(p));
            return flat ? new Point(p.x, over) : new Point(over, p.y);
        }

        /** Where straight from p to q the line is truly crossed at a place of the wall; or null. */
        Point crossing(Point p, Point q) {
            Frac line = Frac.of(where);
            if (across(p).minus(line).sign() * across(q).minus(line).sign() >= 0) {
                return null;
            }
            Frac part = line.minus(across(p)).over(across(q).minus(across(p)));
            Frac hit = along(p).plus(along(q).minus(along(p)).times(part));
            if (hit.compareTo(Frac.of(from)) < 0 || hit.compareTo(Frac.of(to)) > 0) {
                return null;
            }
            return flat ? new Point(hit, line) : new Point(line, hit);
        }

        Wall at(int place) {
            return new Wall(flat, place, from, to, soft, there);
        }

        Wall there(boolean on) {
            return new Wall(flat, where, from, to, soft, on);
        }
    }

    record Way(int number, long square, int soft, List<Point> touches) { }

    record Ret(int number, int time, int loud, int length) { }

    record Post(int x, int y, int loud, int time) { }

    record Held(List<Wall> walls, int pace) { }

    private static final class Fault extends RuntimeException {
        private static final long serialVersionUID = 1;
        final int number;
        final int place;

        Fault(int number, int place) {
            super(null, null, false, false);
            this.number = number;
            this.place = place;
        }
    }

    private final List<Integer> tape = new ArrayList<>();
    private int faultPlace = -1;
    private List<Wall> walls = new ArrayList<>();
    private List<Post> men = new ArrayList<>();
    private List<Post> ears = new ArrayList<>();
    private List<Post> bells = new ArrayList<>();
    private int wide = 20;
    private int high = 20;
    private int pace = 10;
    private int fall = 10;
    private int gap = 100;
    private final List<Post> echoes = new ArrayList<>();
    private final List<Post> shouts = new ArrayList<>();
    private final Map<Integer, Held> slots = new HashMap<>();

    // ---- the text

    public int feed(int a, int b, int c, int d, int e) {
        if (tape.size() > 1980) {
            return -1;
        }
        for (int four : new int[] {a, b, c, d, e}) {
            for (int i = 3; i >= 0; i--) {
                tape.add((four >> 8 * i) & 0xff);
            }
        }
        return tape.size();
    }

    public int back(int n) {
        if (n < 0 || n > tape.size()) {
            return -1;
        }
        for (int i = 0; i < n; i++) {
            tape.remove(tape.size() - 1);
        }
        return tape.size();
    }

    record Token(char kind, String text, int place) { }

    /** Kinds: w a word in quotes, n NAME, i INT, ; and ? for what is no TOKEN. */
    private static List<Token> tokens(String text) {
        List<Token> all = new ArrayList<>();
        java.util.regex.Matcher m =
            java.util.regex.Pattern.compile("[\\t\\n\\r ]+|([a-z]+)|([0-9]+)|(;)|([\\x00-\\xff])").matcher(text);
        while (m.find()) {
            String s = m.group();
            if (m.group(1) != null) {
                boolean word = List.of("wall", "up", "flat", "man", "ear", "bell", "map", "pace", "fall", "gap").contains(s);
                all.add(new Token(word ? 'w' : s.length() <= 8 ? 'n' : '?', s, m.start()));
            } else if (m.group(2) != null) {
                all.add(new Token(s.length() <= 4 ? 'i' : '?', s, m.start()));
            } else if (m.group(3) != null) {
                all.add(new Token(';', s, m.start()));
            } else if (m.group(4) != null) {
                all.add(new Token('?', s, m.start()));
            }
        }
        return all;
    }

    private static final Map<String, String> FORMS = Map.of("wall", "nsiiii;", "man", "niii;", "ear", "nii;",
        "bell", "niii;", "map", "ii;", "pace", "i;", "fall", "i;", "gap", "i;");

    private static boolean is(Token t, char wanted) {
        if (wanted == 's') {
            return t.kind == 'w' && (t.text.equals("up") || t.text.equals("flat"));
        }
        return t.kind == wanted;
    }

    private static List<List<Token>> tellings(String text) {
        List<List<Token>> all = new ArrayList<>();
        Map<String, Integer> told = new HashMap<>();
        int seen = 0;
        String rest = "";
        for (Token t : tokens(text)) {
            boolean room = ++seen <= 400;
            if (rest.isEmpty()) {
                if (t.kind != 'w' || !FORMS.containsKey(t.text)) {
                    throw new Fault(1, t.place);
                }
                int many = told.merge(t.text, 1, Integer::sum);
                room &= many <= (t.text.equals("wall") ? 8 : FORMS.get(t.text).startsWith("n") ? 6 : 1000);
                rest = FORMS.get(t.text);
                all.add(new ArrayList<>());
            } else {
                if (!is(t, rest.charAt(0))) {
                    throw new Fault(1, t.place);
                }
                rest = rest.substring(1);
            }
            if (!room) {
                throw new Fault(2, t.place);
            }
            all.get(all.size() - 1).add(t);
        }
        if (!rest.isEmpty()) {
            throw new Fault(1, text.length());
        }
        return all;
    }

    private static int worth(Token t) {
        return Integer.parseInt(t.text);
    }

    private static void range(Token t, int least, int most) {
        if (worth(t) < least || worth(t) > most) {
            throw new Fault(5, t.place);
        }
    }

    private static void checkNumbers(List<List<Token>> all) {
        Map<String, Integer> names = new LinkedHashMap<>();
        for (List<Token> t : all) {
            String word = t.get(0).text;
            if (t.get(1).kind == 'n' && names.put(t.get(1).text, 0) != null) {
                throw new Fault(3, t.get(1).place);
            }
            switch (word) {
                case "wall" -> {
                    range(t.get(3), 0, 99);
                    range(t.get(4), 0, 99);
                    range(t.get(5), worth(t.get(4)), 99);
                    range(t.get(6), 0, 99);
                }
                case "man" -> {
                    range(t.get(2), 0, 99);
                    range(t.get(3), 0, 99);
                    range(t.get(4), 1, 99);
                }
                case "ear", "bell" -> {
                    range(t.get(2), 0, 99);
                    range(t.get(3), 0, 99);
                }
                case "map" -> {
                    range(t.get(1), 1, 40);
                    range(t.get(2), 1, 40);
                }
                case "pace", "fall" -> range(t.get(1), 1, 99);
                default -> { }
            }
        }
    }

    public int read() {
        StringBuilder text = new StringBuilder();
        for (int b : tape) {
            text.append((char) b);
        }
        tape.clear();
        try {
            List<List<Token>> all = tellings(text.toString());
            checkNumbers(all);
            int w = 20;
            int h = 20;
            for (List<Token> t : all) {
                if (t.get(0).text.equals("map")) {
                    w = worth(t.get(1));
                    h = worth(t.get(2));
                }
            }
            for (List<Token> t : all) {
                if (List.of("man", "ear", "bell").contains(t.get(0).text)) {
                    if (worth(t.get(2)) >= w) {
                        throw new Fault(6, t.get(2).place);
                    }
                    if (worth(t.get(3)) >= h) {
                        throw new Fault(6, t.get(3).place);
                    }
                }
            }
            take(all, w, h);
            faultPlace = -1;
            return 0;
        } catch (Fault f) {
            faultPlace = f.place;
            return f.number;
        }
    }

    private void take(List<List<Token>> all, int w, int h) {
        walls = new ArrayList<>();
        men = new ArrayList<>();
        ears = new ArrayList<>();
        bells = new ArrayList<>();
        wide = w;
        high = h;
        pace = 10;
        fall = 10;
        gap = 100;
        echoes.clear();
        shouts.clear();
        slots.clear();
        for (List<Token> t : all) {
            switch (t.get(0).text) {
                case "wall" -> walls.add(new Wall(t.get(2).text.equals("flat"), worth(t.get(3)), worth(t.get(4)),
                    worth(t.get(5)), worth(t.get(6)), true));
                case "man" -> men.add(new Post(worth(t.get(2)), worth(t.get(3)), worth(t.get(4)), 0));
                case "ear" -> ears.add(new Post(worth(t.get(2)), worth(t.get(3)), 0, 0));
                case "bell" -> bells.add(new Post(worth(t.get(2)), worth(t.get(3)), 99, worth(t.get(4))));
                case "pace" -> pace = worth(t.get(1));
                case "fall" -> fall = worth(t.get(1));
                case "gap" -> gap = worth(t.get(1));
                default -> { }
            }
        }
    }

    public int place() {
        return faultPlace;
    }

    // ---- walls

    private static boolean in(int i, List<?> list) {
        return i >= 0 && i < list.size();
    }

    private static boolean between(int least, int i, int most) {
        return least <= i && i <= most;
    }

    private boolean onMap(int x, int y) {
        return between(0, x, wide - 1) && between(0, y, high - 1);
    }

    private static boolean loudOk(int loud) {
        return between(1, loud, 99);
    }

    public int wall(int wall, int what) {
        if (!in(wall, walls) || !between(0, what, 5)) {
            return -1;
        }
        Wall w = walls.get(wall);
        return new int[] {w.flat ? 1 : 0, w.where, w.from, w.to, w.soft, w.there ? 1 : 0}[what];
    }

    public boolean stands(int wall, boolean on) {
        if (!in(wall, walls)) {
            return false;
        }
        walls.set(wall, walls.get(wall).there(on));
        return true;
    }

    public boolean move(int wall, int where) {
        if (!in(wall, walls) || !between(0, where, 99)) {
            return false;
        }
        walls.set(wall, walls.get(wall).at(where));
        return true;
    }

    public int pace(int p) {
        if (!between(1, p, 99)) {
            return -1;
        }
        int was = pace;
        pace = p;
        return was;
    }

    public boolean hold(int slot) {
        if (!between(0, slot, 2)) {
            return false;
        }
        slots.put(slot, new Held(new ArrayList<>(walls), pace));
        return true;
    }

    public boolean restore(int slot) {
        Held held = slots.get(slot);
        if (held == null) {
            return false;
        }
        walls = new ArrayList<>(held.walls);
        pace = held.pace;
        return true;
    }

    public int count(int what) {
        if (!between(0, what, 12)) {
            return -1;
        }
        return new int[] {walls.size(), men.size(), ears.size(), bells.size(), wide, high, pace, fall, gap,
            echoes.size(), shouts.size(), tape.size(), slots.size()}[what];
    }

    // ---- ways

    private static Point point(int x, int y) {
        return new Point(Frac.of(x), Frac.of(y));
    }

    private static boolean blocked(List<Wall> all, List<Point> stops) {
        for (int i = 0; i + 1 < stops.size(); i++) {
            for (Wall w : all) {
                if (w.there && w.crossing(stops.get(i), stops.get(i + 1)) != null) {
                    return true;
                }
            }
        }
        return false;
    }

    private static void addWay(List<Way> ways, List<Wall> all, int number, Point last, int soft, List<Point> stops) {
        if (blocked(all, stops)) {
            return;
        }
        Frac dx = last.x.minus(stops.get(0).x);
        Frac dy = last.y.minus(stops.get(0).y);
        Frac square = dx.times(dx).plus(dy.times(dy));
        ways.add(new Way(number, square.n.longValueExact(), soft, stops.subList(1, stops.size() - 1)));
    }

    private static List<Way> ways(List<Wall> all, Point p, Point q) {
        List<Way> ways = new ArrayList<>();
        addWay(ways, all, 0, q, 0, List.of(p, q));
        for (int a = 0; a < all.size(); a++) {
            Wall one = all.get(a);
            if (!one.there) {
                continue;
            }
            Point image = one.image(q);
            Point t = one.crossing(p, image);
            if (t != null) {
                addWay(ways, all, 10 + a, image, one.soft, List.of(p, t, q));
            }
            for (int b = 0; b < all.size(); b++) {
                Wall two = all.get(b);
                if (b == a || !two.there) {
                    continue;
                }
                Point near = two.image(q);
                Point far = one.image(near);
                Point t1 = one.crossing(p, far);
                Point t2 = t1 == null ? null : two.crossing(t1, near);
                if (t2 != null) {
                    addWay(ways, all, 100 + 10 * a + b, far, one.soft + two.soft, List.of(p, t1, t2, q));
                }
            }
        }
        return ways;
    }

    private int time(long square) {
        BigInteger million = BigInteger.valueOf(1000000L * square);
        return million.divide(BigInteger.valueOf((long) pace * pace)).sqrt().intValueExact();
    }

    private List<Ret> rets(List<Wall> all, int x, int y, int u, int v, int loud) {
        List<Ret> list = new ArrayList<>();
        for (Way way : ways(all, point(x, y), point(u, v))) {
            int length = BigInteger.valueOf(way.square).sqrt().intValueExact();
            int left = loud - way.soft - length / fall;
            if (left >= 1) {
                list.add(new Ret(way.number, time(way.square), left, length));
            }
        }
        list.sort(Comparator.comparingInt(Ret::time).thenComparing(Comparator.comparingInt(Ret::loud).reversed())
            .thenComparingInt(Ret::number));
        return list;
    }

    private int soonest(List<Ret> list, boolean straightToo) {
        for (Ret r : list) {
            if (straightToo || r.number != 0) {
                return r.time;
            }
        }
        return -2;
    }

    private int echo(List<Wall> all, int x, int y, int loud) {
        return soonest(rets(all, x, y, x, y, loud), false);
    }

    private List<Ret> fromTo(List<Wall> all, int man, int ear) {
        Post m = men.get(man);
        Post e = ears.get(ear);
        return rets(all, m.x, m.y, e.x, e.y, m.loud);
    }

    private boolean isDrowned(List<Ret> list, int i) {
        for (Ret ahead : list.subList(0, i)) {
            if (list.get(i).time - ahead.time < gap && ahead.loud > list.get(i).loud) {
                return true;
            }
        }
        return false;
    }

    private int apart(List<Ret> list) {
        List<Ret> heard = new ArrayList<>();
        for (int i = 0; i < list.size(); i++) {
            Ret r = list.get(i);
            if (!isDrowned(list, i) && (heard.isEmpty() || r.time - heard.get(heard.size() - 1).time >= gap)) {
                heard.add(r);
            }
        }
        return heard.size();
    }

    public int returns(int x, int y, int u, int v, int loud) {
        return onMap(x, y) && onMap(u, v) && loudOk(loud) ? rets(walls, x, y, u, v, loud).size() : -1;
    }

    public int at(int x, int y, int u, int v, int loud, int i, int what) {
        if (!onMap(x, y) || !onMap(u, v) || !loudOk(loud) || !between(0, what, 3)) {
            return -1;
        }
        List<Ret> list = rets(walls, x, y, u, v, loud);
        if (!in(i, list)) {
            return -1;
        }
        Ret r = list.get(i);
        return new int[] {r.number, r.time, r.loud, r.length}[what];
    }

    public int touch(int x, int y, int u, int v, int number, int k, boolean high) {
        List<Integer> numbers = new ArrayList<>();
        for (int a = 0; a < walls.size(); a++) {
            if (k == 0) {
                numbers.add(10 + a);
            }
            for (int b = 0; b < walls.size(); b++) {
                if (a != b && (k == 0 || k == 1)) {
                    numbers.add(100 + 10 * a + b);
                }
            }
        }
        if (!onMap(x, y) || !onMap(u, v) || !numbers.contains(number)) {
            return -1;
        }
        for (Way way : ways(walls, point(x, y), point(u, v))) {
            if (way.number == number) {
                Point t = way.touches.get(k);
                return (high ? t.y : t.x).thousandths();
            }
        }
        return -2;
    }

    public int heard(int man, int ear) {
        return in(man, men) && in(ear, ears) ? apart(fromTo(walls, man, ear)) : -1;
    }

    public int drowned(int man, int ear) {
        if (!in(man, men) || !in(ear, ears)) {
            return -1;
        }
        List<Ret> list = fromTo(walls, man, ear);
        int many = 0;
        for (int i = 0; i < list.size(); i++) {
            many += isDrowned(list, i) ? 1 : 0;
        }
        return many;
    }

    // ---- beats and the like

    public int beats(int x, int y, int loud, int beat) {
        if (!onMap(x, y) || !loudOk(loud) || !between(1, beat, 9999)) {
            return -1;
        }
        int t = echo(walls, x, y, loud);
        return t == -2 ? -2 : t / beat;
    }

    interface Test {
        boolean holds(int x, int y);
    }

    private List<Integer> where(Test test) {
        List<Integer> list = new ArrayList<>();
        for (int y = 0; y < high; y++) {
            for (int x = 0; x < wide; x++) {
                if (test.holds(x, y)) {
                    list.add(100 * y + x);
                }
            }
        }
        return list;
    }

    private static int manyOrFirst(List<Integer> list, int what) {
        return what == 0 ? list.size() : list.isEmpty() ? -2 : list.get(0);
    }

    public int stand(int n, int loud, int beat, int what) {
        if (n < 0 || !loudOk(loud) || !between(1, beat, 9999) || !between(0, what, 1)) {
            return -1;
        }
        return manyOrFirst(where((x, y) -> {
            int b = beats(x, y, loud, beat);
            return b != -2 && b >= n;
        }), what);
    }

    private List<Ret> to(Post p, int x, int y) {
        return rets(walls, p.x, p.y, x, y, p.loud);
    }

    public int deaf(int man, int what) {
        if (!in(man, men) || !between(0, what, 1)) {
            return -1;
        }
        return manyOrFirst(where((x, y) -> to(men.get(man), x, y).isEmpty()), what);
    }

    public int louder(int man, int k) {
        if (!in(man, men) || k < 1) {
            return -1;
        }
        return where((x, y) -> to(men.get(man), x, y).stream().anyMatch(r -> r.loud >= k)).size();
    }

    public int canon(int x, int y, int loud, int beat, int n) {
        if (!onMap(x, y) || !loudOk(loud) || !between(1, beat, 9999) || !between(1, n, 99)) {
            return -1;
        }
        int many = 0;
        for (int i = 1; i <= n; i++) {
            int due = i * beat;
            many += rets(walls, x, y, x, y, loud).stream().anyMatch(r -> r.number != 0
                && (r.time == due || r.time > due && r.time < due + gap)) ? 1 : 0;
        }
        return many;
    }

    public int put(int wall, int man, int ear, int what) {
        if (!in(wall, walls) || !in(man, men) || !in(ear, ears) || !between(0, what, 1)) {
            return -1;
        }
        int best = -1;
        int most = -1;
        for (int c = 0; c <= 39; c++) {
            List<Wall> all = new ArrayList<>(walls);
            all.set(wall, walls.get(wall).at(c).there(true));
            int many = apart(fromTo(all, man, ear));
            if (many > most) {
                best = c;
                most = many;
            }
        }
        return what == 0 ? best : most;
    }

    public int hush(int man, int ear) {
        if (!in(man, men) || !in(ear, ears)) {
            return -1;
        }
        for (int many = 0; many <= 8; many++) {
            for (int bits = 0; bits < 256; bits++) {
                if (Integer.bitCount(bits) == many && silent(bits, man, ear)) {
                    return bits;
                }
            }
        }
        throw new IllegalStateException("without any wall there is no echo");
    }

    private boolean silent(int bits, int man, int ear) {
        List<Wall> all = new ArrayList<>(walls);
        for (int w = 0; w < 8; w++) {
            if ((bits >> w & 1) == 1) {
                if (w >= all.size() || !all.get(w).there) {
                    return false;
                }
                all.set(w, all.get(w).there(false));
            }
        }
        return fromTo(all, man, ear).stream().allMatch(r -> r.number == 0);
    }

    public int whose(int ear, int time) {
        if (!in(ear, ears)) {
            return -1;
        }
        int bits = 0;
        for (int m = 0; m < men.size(); m++) {
            List<Ret> list = fromTo(walls, m, ear);
            if (!list.isEmpty() && list.get(0).time == time) {
                bits += 1 << m;
            }
        }
        return bits;
    }

    /** When the first sound of a man comes to an ear, for those who make runs. */
    int arrival(int man, int ear) {
        return soonest(fromTo(walls, man, ear), true);
    }

    public int along(int x, int y, int dx, int dy, int loud, int i) {
        if (!onMap(x, y) || !between(-40, dx, 40) || !between(-40, dy, 40) || !loudOk(loud) || !between(0, i, 99)) {
            return -1;
        }
        return onMap(x + i * dx, y + i * dy) ? echo(walls, x + i * dx, y + i * dy, loud) : -3;
    }

    public int nearest(int x, int y, int dx, int dy, int loud, int n) {
        if (!onMap(x, y) || !between(-40, dx, 40) || !between(-40, dy, 40) || !loudOk(loud) || !between(1, n, 100)) {
            return -1;
        }
        int best = -2;
        int least = Integer.MAX_VALUE;
        for (int i = 0; i < n; i++) {
            int t = along(x, y, dx, dy, loud, i);
            if (t >= 0 && t < least) {
                best = i;
                least = t;
            }
        }
        return best;
    }

    private Integer rings(int bell, int x, int y) {
        List<Ret> list = to(bells.get(bell), x, y);
        return list.isEmpty() ? null : bells.get(bell).time + list.get(0).time;
    }

    public int first(int x, int y, int what) {
        if (!onMap(x, y) || !between(0, what, 1)) {
            return -1;
        }
        int best = -2;
        int soonest = -2;
        for (int b = bells.size() - 1; b >= 0; b--) {
            Integer t = rings(b, x, y);
            if (t != null && (best == -2 || t <= soonest)) {
                best = b;
                soonest = t;
            }
        }
        return what == 0 ? best : soonest;
    }

    public int cross(int bell, int other, int g, int what) {
        if (!in(bell, bells) || !in(other, bells) || bell == other || g < 0 || !between(0, what, 1)) {
            return -1;
        }
        return manyOrFirst(where((x, y) -> {
            Integer a = rings(bell, x, y);
            Integer b = rings(other, x, y);
            return a != null && b != null && Math.max(a, b) - Math.min(a, b) <= g;
        }), what);
    }

    public int chirp(int far, int tread, int i) {
        if (!between(1, far, 999) || !between(1, tread, 999) || !between(1, i, 99)) {
            return -1;
        }
        int now = 1000 * 2 * (far + i * tread) / pace;
        int ahead = 1000 * 2 * (far + (i - 1) * tread) / pace;
        return now - ahead;
    }

    // ---- told

    public int tell(int x, int y, int loud, int time) {
        if (!onMap(x, y) || !loudOk(loud) || time < 0 && time != -2 || echoes.size() == 20) {
            return -1;
        }
        echoes.add(new Post(x, y, loud, time));
        return echoes.size() - 1;
    }

    public int shout(int dx, int dy, int loud, int time) {
        if (!between(-40, dx, 40) || !between(-40, dy, 40) || !loudOk(loud) || time < 0 && time != -2
            || shouts.size() == 20) {
            return -1;
        }
        shouts.add(new Post(dx, dy, loud, time));
        return shouts.size() - 1;
    }

    public int forget() {
        int many = echoes.size();
        echoes.clear();
        shouts.clear();
        return many;
    }

    private List<Wall> with(int code) {
        List<Wall> all = new ArrayList<>(walls);
        all.add(new Wall(code >= 100, code % 100, 0, 99, 0, true));
        return all;
    }

    private List<Integer> hiddenOnes(int k) {
        List<Integer> list = new ArrayList<>();
        for (int code = 0; code < 140; code++) {
            int hidden = code;
            if (code % 100 < 40 && echoes.subList(0, k).stream()
                .allMatch(e -> echo(with(hidden), e.x, e.y, e.loud) == e.time)) {
                list.add(code);
            }
        }
        return list;
    }

    private static int manyOrOne(List<Integer> list, int i) {
        return i == -1 ? list.size() : in(i, list) ? list.get(i) : -1;
    }

    public int hidden(int k, int i) {
        return between(0, k, echoes.size()) ? manyOrOne(hiddenOnes(k), i) : -1;
    }

    private static int greatest(List<Integer> list) {
        Map<Integer, Integer> many = new HashMap<>();
        int greatest = 0;
        for (int answer : list) {
            greatest = Math.max(greatest, many.merge(answer, 1, Integer::sum));
        }
        return greatest;
    }

    public int next(int k, int loud) {
        if (!between(0, k, echoes.size()) || !loudOk(loud)) {
            return -1;
        }
        List<Integer> hidden = hiddenOnes(k);
        int best = -2;
        int least = Integer.MAX_VALUE;
        if (hidden.isEmpty()) {
            return -2;
        }
        for (int code : where((x, y) -> true)) {
            List<Integer> list = new ArrayList<>();
            for (int h : hidden) {
                list.add(echo(with(h), code % 100, code / 100, loud));
            }
            if (greatest(list) < least) {
                least = greatest(list);
                best = code;
            }
        }
        return best;
    }

    private List<Integer> fits(int k) {
        return where((x, y) -> shouts.subList(0, k).stream().allMatch(s -> onMap(x + s.x, y + s.y)
            && echo(walls, x + s.x, y + s.y, s.loud) == s.time));
    }

    public int fitting(int k, int i) {
        return between(0, k, shouts.size()) ? manyOrOne(fits(k), i) : -1;
    }

    public int step(int k, int loud) {
        if (!between(0, k, shouts.size()) || !loudOk(loud)) {
            return -1;
        }
        List<Integer> begun = fits(k);
        if (begun.isEmpty()) {
            return -2;
        }
        int best = -2;
        int least = Integer.MAX_VALUE;
        for (int dy = -2; dy <= 2; dy++) {
            for (int dx = -2; dx <= 2; dx++) {
                List<Integer> list = new ArrayList<>();
                for (int code : begun) {
                    int x = code % 100 + dx;
                    int y = code / 100 + dy;
                    list.add(onMap(x, y) ? echo(walls, x, y, loud) : -99);
                }
                if (greatest(list) < least) {
                    least = greatest(list);
                    best = 100 * (dy + 2) + dx + 2;
                }
            }
        }
        return best;
    }
}
