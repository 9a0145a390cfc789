import java.lang.reflect.Method;
import java.util.ArrayList;
import java.util.Arrays;
import java.util.Comparator;
import java.util.List;

/**
 * Puts runs of calls to the class and to the Model, and prints each call they answer otherwise.
 * The runs are made by a row of numbers that is the same each time.
 */
public final class ModelTests {
    private static final int RUNS = 60;
    private static final int CALLS = 120;
    private static final int MOST_CALLS = 512;
    private static long seed;
    private static int wrong = 0;

    private static int pick(int end) {
        seed = seed * 6364136223846793005L + 1442695040888963407L;
        return (int) ((seed >>> 33) % end);
    }

    private static int between(int least, int most) {
        return least + pick(most - least + 1);
    }

    public static void main(String[] args) throws Exception {
        int runs = args.length > 0 ? Integer.parseInt(args[0]) : RUNS;
        long from = args.length > 1 ? Long.parseLong(args[1]) : 0;
        for (int run = 0; run < runs; run++) {
            seed = (from + run) * 1000003L + 17;
            pick(2);
            oneRun(run);
        }
        System.out.println(wrong == 0 ? "ModelTests: all alike" : "ModelTests: " + wrong + " not alike");
        if (wrong != 0) {
            System.exit(1);
        }
    }

    private EchoValley real = new EchoValley();
    private Model model = new Model();
    private final List<String> calls = new ArrayList<>();
    private int wide = 20;
    private int high = 20;
    private int budget = 60;

    private static final List<Method> FACE = face();

    private static List<Method> face() {
        List<Method> face = new ArrayList<>(Arrays.asList(EchoValley.class.getDeclaredMethods()));
        face.removeIf(m -> !java.lang.reflect.Modifier.isPublic(m.getModifiers()));
        face.sort(Comparator.comparing(Method::getName));
        return face;
    }

    private static Method method(String name) {
        for (Method m : FACE) {
            if (m.getName().equals(name)) {
                return m;
            }
        }
        throw new IllegalArgumentException(name);
    }

    private static void oneRun(int run) throws Exception {
        ModelTests t = new ModelTests();
        if (pick(12) != 0) {
            t.text();
        }
        for (int i = 0; i < CALLS; i++) {
            if (pick(40) == 0) {
                t.text();
            }
            t.anyCall(run);
        }
    }

    /** What is answered behind the 512th call of an object is free, so it is not asked. */
    private void put(int run, String name, Object... a) throws Exception {
        if (calls.size() >= MOST_CALLS) {
            return;
        }
        calls.add(name + Arrays.toString(a));
        Method m = method(name);
        Object got = m.invoke(real, a);
        Object due = Model.class.getMethod(name, m.getParameterTypes()).invoke(model, a);
        if (!got.equals(due)) {
            wrong++;
            System.out.println("run " + run + " call " + calls.size() + ": " + name + Arrays.toString(a)
                + " answered " + got + ", the model " + due);
        }
    }

    // ---- texts

    private int names = 0;

    private String name() {
        return pick(90) == 0 ? "a" : "n" + (char) ('a' + names / 26 % 26) + (char) ('a' + names++ % 26);
    }

    private String number(int least, int most) {
        return pick(300) == 0 ? "" + pick(200) : pick(20) == 0 ? "0" + between(least, most) : "" + between(least, most);
    }

    private String wallText() {
        int from = between(0, pick(3) == 0 ? 30 : 5);
        int to = pick(3) == 0 ? from + pick(5) : between(from, pick(2) == 0 ? 40 : 99);
        int where = pick(8) == 0 ? pick(100) : pick(Math.max(wide, high) + 3);
        return "wall " + name() + (pick(2) == 0 ? " up " : " flat ") + where + " " + number(from, from) + " " + to + " "
            + number(0, pick(3) == 0 ? 40 : 3) + ";";
    }

    private String telling() {
        switch (pick(13)) {
            case 0: case 1: case 2: case 3: case 10: case 11: return wallText();
            case 4: case 5: return "man " + name() + " " + pick(wide) + " " + number(0, high - 1) + " " + number(1, 99) + ";";
            case 6: return "ear " + name() + " " + number(0, wide - 1) + " " + pick(high) + ";";
            case 7: return "bell " + name() + " " + pick(wide) + " " + pick(high) + " " + number(0, pick(2) == 0 ? 500 : 9999) + ";";
            case 8: return "gap " + number(0, pick(2) == 0 ? 9999 : 700) + ";";
            case 9: return "fall " + number(1, pick(2) == 0 ? 99 : 5) + ";";
            default: return "pace " + number(1, 99) + ";";
        }
    }

    private static final String[] SPARE = {";", "wall", "up", "99", "12345", "abcdefghi", "x", " ", "\n", "!", ".", "A",
        "map 4 4;", "map 41 4;", "man q 3 3 3;", "ear r 39 0;", "gap 1", "\u00e9", "\u0000", "0", "wall z up 3 4 2 1;"};

    private String post(String word, String rest) {
        return word + " " + name() + " " + pick(wide) + " " + pick(high) + rest + ";";
    }

    private void text() throws Exception {
        int side = pick(4) == 0 ? 40 : 12;
        wide = between(1, side);
        high = between(1, side);
        budget = wide * high > 200 ? 8 : 60;
        StringBuilder s = new StringBuilder("map " + wide + " " + high + ";");
        if (pick(6) != 0) {
            s.append(post("man", " " + between(20, 99))).append(post("man", " " + between(1, 99)));
            s.append(post("ear", "")).append(post("ear", "")).append(post("bell", " 0")).append(post("bell", " " + pick(900)));
        }
        int many = pick(18);
        for (int i = 0; i < many; i++) {
            s.append(pick(3) == 0 ? "\t\n" : "").append(telling());
        }
        if (pick(12) == 0) {
            for (int i = pick(130); i > 0; i--) {
                s.append("gap1;");
            }
        }
        if (pick(5) == 0) {
            int at = pick(s.length() + 1);
            if (pick(2) == 0) {
                s.insert(at, SPARE[pick(SPARE.length)]);
            } else {
                s.delete(at, Math.min(s.length(), at + 1 + pick(6)));
            }
        }
        feedText(s.toString());
    }

    private void feedText(String s) throws Exception {
        int spare = (20 - s.length() % 20) % 20;
        byte[] bytes = Arrays.copyOf(s.getBytes(java.nio.charset.StandardCharsets.ISO_8859_1), s.length() + spare);
        for (int i = 0; i < bytes.length; i += 20) {
            Object[] fives = new Object[5];
            for (int j = 0; j < 5; j++) {
                fives[j] = java.nio.ByteBuffer.wrap(bytes, i + 4 * j, 4).getInt();
            }
            put(-1, "feed", fives);
        }
        put(-1, "back", spare);
        put(-1, "count", 11);
        put(-1, "read");
        put(-1, "place");
        wide = model.count(4);
        high = model.count(5);
        for (int what = 0; what <= 13; what++) {
            put(-1, "count", what);
        }
        for (int i = 0; i < model.count(0); i++) {
            for (int what = 0; what < 6; what++) {
                put(-1, "wall", i, what);
            }
        }
    }

    // ---- calls

    private static int odd(int usual) {
        switch (pick(60)) {
            case 0: return -1;
            case 1: return -2;
            case 2: return usual + 100;
            case 3: return Integer.MAX_VALUE;
            case 4: return Integer.MIN_VALUE;
            case 5: return 0;
            default: return usual;
        }
    }

    private int x() {
        return odd(pick(wide));
    }

    private int y() {
        return odd(pick(high));
    }

    private static int loud() {
        return odd(pick(3) == 0 ? between(1, 12) : between(1, 99));
    }

    private static int beat() {
        return odd(pick(2) == 0 ? between(1, 9999) : between(50, 600));
    }

    private static int one(int of) {
        return odd(pick(Math.max(1, of)));
    }

    private int what() {
        return odd(pick(2));
    }

    private static int near() {
        return odd(pick(3) == 0 ? between(-40, 40) : between(-2, 2));
    }

    private int time() {
        int x = pick(wide);
        int y = pick(high);
        int t = model.along(x, y, 0, 0, 99, 0);
        return odd(pick(6) == 0 ? -2 : t);
    }

    private void anyCall(int run) throws Exception {
        String name = FACE.get(pick(FACE.size())).getName();
        int walls = model.count(0);
        int men = model.count(1);
        int ears = model.count(2);
        int bells = model.count(3);
        switch (name) {
            case "feed": case "read": case "place": put(run, "place"); break;
            case "back": put(run, "back", odd(0)); break;
            case "wall": put(run, name, one(walls), odd(pick(6))); break;
            case "stands": put(run, name, one(walls), pick(3) != 0); break;
            case "move": put(run, name, one(walls), odd(pick(pick(3) == 0 ? 100 : 20))); break;
            case "pace": put(run, name, odd(between(1, 99))); break;
            case "returns": case "at": case "touch": ways(run, walls); break;
            case "heard": case "drowned": case "hush": put(run, name, one(men), one(ears)); break;
            case "beats": put(run, name, x(), y(), loud(), beat()); break;
            case "stand": heavy(run, 2, name, odd(pick(9)), loud(), beat(), what()); break;
            case "deaf": heavy(run, 2, name, one(men), what()); break;
            case "louder": heavy(run, 2, name, one(men), odd(between(1, 99))); break;
            case "canon": put(run, name, x(), y(), loud(), beat(), odd(between(1, 20))); break;
            case "put": put(run, name, one(walls), one(men), one(ears), what()); break;
            case "whose": put(run, name, pick(2) == 0 ? 0 : one(ears), Math.max(0, whoseTime(ears, men))); break;
            case "along": put(run, name, x(), y(), near(), near(), loud(), odd(pick(8))); break;
            case "nearest": put(run, name, x(), y(), near(), near(), loud(), odd(between(1, 12))); break;
            case "first": put(run, name, x(), y(), what()); break;
            case "cross": heavy(run, 2, name, one(bells), one(bells), odd(pick(2000)), what()); break;
            case "chirp": put(run, name, odd(between(1, 999)), odd(between(1, 999)), odd(between(1, 99))); break;
            case "tell": tell(run); break;
            case "forget": put(run, pick(4) == 0 ? "forget" : "place"); break;
            case "hidden": heavy(run, 2, name, one(model.count(9) + 1), odd(pick(4) - 1)); break;
            case "next": heavy(run, 20, name, odd(model.count(9)), loud()); break;
            case "shout": shout(run); break;
            case "fitting": heavy(run, 1, name, one(model.count(10) + 1), odd(pick(8) - 1)); break;
            case "step": heavy(run, 10, name, one(model.count(10) + 1), loud()); break;
            case "hold": case "restore": put(run, name, odd(pick(4))); break;
            case "count": put(run, name, odd(pick(14))); break;
            default: throw new IllegalStateException(name);
        }
    }

    /** The model is slow: of the dear calls there are only some in a run. */
    private void heavy(int run, int price, String name, Object... a) throws Exception {
        budget -= price;
        if (budget >= 0) {
            put(run, name, a);
        }
    }

    private void ways(int run, int walls) throws Exception {
        int x = x();
        int y = y();
        int u = pick(3) == 0 ? x : x();
        int v = pick(3) == 0 ? y : y();
        int loud = loud();
        put(run, "returns", x, y, u, v, loud);
        int many = Math.min(9, model.returns(x, y, u, v, loud));
        for (int i = 0; i <= many; i++) {
            for (int what = 0; what < 4; what++) {
                put(run, "at", x, y, u, v, loud, i, what);
            }
            int number = i < many ? model.at(x, y, u, v, loud, i, 0) : odd(100 + pick(80));
            put(run, "touch", x, y, u, v, number, odd(0), pick(2) == 0);
            put(run, "touch", x, y, u, v, number, odd(1), pick(2) == 0);
        }
        put(run, "touch", x, y, u, v, 100 + 10 * one(walls) + one(walls), pick(3) - 1, pick(2) == 0);
        put(run, "touch", x, y, u, v, 10 + one(walls), pick(2), pick(2) == 0);
    }

    private int whoseTime(int ears, int men) {
        return ears > 0 && men > 0 && pick(4) != 0 ? model.arrival(pick(men), 0) : odd(pick(3000));
    }

    /** Echoes that a hidden wall may truly have given, so that some walls stay. */
    private void tell(int run) throws Exception {
        int code = 100 * pick(2) + pick(Math.max(wide, high));
        int x = pick(wide);
        int y = pick(high);
        int far = Math.abs(code >= 100 ? code - 100 - y : code - x);
        int time = pick(3) == 0 || far == 0 ? time() : 2000 * far / model.count(6);
        put(run, "tell", odd(x), odd(y), pick(3) == 0 ? loud() : 99, time);
    }

    private void shout(int run) throws Exception {
        int x = pick(wide);
        int y = pick(high);
        int dx = between(-2, 2);
        int dy = between(-2, 2);
        int loud = between(1, 99);
        int time = model.along(Math.min(Math.max(x + dx, 0), wide - 1), Math.min(Math.max(y + dy, 0), high - 1), 0, 0, loud, 0);
        put(run, "shout", odd(dx), odd(dy), loud, odd(time));
    }
}
