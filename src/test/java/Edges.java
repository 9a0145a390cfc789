import java.nio.charset.StandardCharsets;
import java.nio.file.Files;
import java.nio.file.Path;
import java.util.Arrays;

/**
 * What the edge tests share. Each test begins with the sentence that it is for; a sentence that
 * does not stand in the document is a fault of the test.
 */
final class Edges {
    /** A call on a valley with arguments. */
    interface Call {
        int of(EchoValley e, int[] a);
    }

    private final String name;
    private final String doc;
    private String sentence = "";
    private int wrong = 0;

    Edges(String name) {
        this.name = name;
        this.doc = plain(document());
    }

    private static String document() {
        try {
            return Files.readString(Path.of("../shared/DOC.md"));
        } catch (java.io.IOException e) {
            throw new java.io.UncheckedIOException(e);
        }
    }

    private static String plain(String text) {
        return text.replaceAll("\\s+", " ");
    }

    /** What follows is a test of this sentence. */
    void sentence(String words) {
        sentence = words;
        if (!doc.contains(plain(words))) {
            blame("the document does not say so");
        }
    }

    private void blame(String what) {
        wrong++;
        if (wrong <= 200) {
            System.out.println("\"" + sentence + "\": " + shown(what));
        }
    }

    /** Long texts are told by their beginning and their end. */
    private static String shown(String what) {
        int most = 300;
        return what.length() <= most ? what : what.substring(0, most / 2) + " .. " + what.substring(what.length() - most / 2);
    }

    /** How many answers were not as due. */
    int end() {
        System.out.println(wrong == 0 ? name + ": all as due" : name + ": " + wrong + " not as due");
        return wrong;
    }

    // ---- answers

    void due(String what, int got, int want) {
        if (got != want) {
            blame(what + " answered " + got + ", due is " + want);
        }
    }

    void due(String what, boolean got, boolean want) {
        if (got != want) {
            blame(what + " answered " + got + ", due is " + want);
        }
    }

    void due(String what, String got, String want) {
        if (!got.equals(want)) {
            blame(what + " is " + got + ", due is " + want);
        }
    }

    /** RETURNS, four numbers each: NUMBER, TIME, LOUD, LONG. */
    void dueReturns(EchoValley e, int[] places, int loud, int[]... want) {
        String what = Arrays.toString(places) + " of " + loud;
        due("returns " + what, e.returns(places[0], places[1], places[2], places[3], loud), want.length);
        for (int i = 0; i < want.length; i++) {
            for (int j = 0; j < 4; j++) {
                int got = e.at(places[0], places[1], places[2], places[3], loud, i, j);
                due("at " + what + " " + i + " " + j, got, want[i][j]);
            }
        }
    }

    /** Of the i-th argument all from least to most will do and nothing else; each time on a new valley. */
    void range(String text, String what, Call call, int[] usual, int i, int least, int most) {
        EchoValley e = valley(text);
        for (long tried : tries(least, most)) {
            int[] a = usual.clone();
            a[i] = (int) tried;
            int got = call.of(e, a);
            boolean good = tried >= least && tried <= most;
            if (good == (got == EchoValley.NONE)) {
                blame(what + " " + Arrays.toString(a) + " answered " + got);
            }
        }
    }

    /** The edges and what lies behind them, also what would look the same if a few bits were lost. */
    private static long[] tries(int least, int most) {
        long[] all = new long[80];
        int n = 0;
        long middle = ((long) least + most) / 2;
        for (long v : new long[] {least, most, middle, least - 1L, most + 1L, Integer.MIN_VALUE, Integer.MAX_VALUE,
            -1 - (long) least, -(long) most, -1 - (long) most}) {
            all[n++] = v;
        }
        for (int j = 4; j < 32; j++) {
            all[n++] = least + (1L << j);
            all[n++] = most - (1L << j);
        }
        return Arrays.stream(Arrays.copyOf(all, n)).filter(v -> v == (int) v).toArray();
    }

    // ---- texts

    static void put(EchoValley e, String text) {
        byte[] told = text.getBytes(StandardCharsets.ISO_8859_1);
        byte[] bytes = Arrays.copyOf(told, (told.length + 19) / 20 * 20);
        for (int i = 0; i < bytes.length; i += 20) {
            int[] five = new int[5];
            for (int j = 0; j < 20; j++) {
                five[j / 4] = five[j / 4] << 8 | bytes[i + j] & 255;
            }
            e.feed(five[0], five[1], five[2], five[3], five[4]);
        }
        e.back(bytes.length - told.length);
    }

    EchoValley valley(String text) {
        EchoValley e = new EchoValley();
        read(e, text);
        return e;
    }

    /** Reads a text without a FAULT. */
    void read(EchoValley e, String text) {
        put(e, text);
        due("read of " + text, e.read(), 0);
    }

    /** The FAULT of a text: on a new valley, and once more on the same one, behind a good text. */
    void fault(String text, int number, int place) {
        EchoValley e = new EchoValley();
        for (int i = 0; i < 2; i++) {
            put(e, text);
            due("read of " + text, e.read(), number);
            due("place of " + text, e.place(), place);
            put(e, "gap 7;");
            e.read();
        }
    }

    void fine(String text) {
        fault(text, 0, EchoValley.NONE);
    }

    /** A part so many times, each with a letter in place of the question mark. */
    static String many(String part, int times) {
        StringBuilder s = new StringBuilder();
        for (int i = 0; i < times; i++) {
            s.append(part.replace('?', (char) ('a' + i % 26)));
        }
        return s.toString();
    }

    static String blanks(int n) {
        return " ".repeat(n);
    }

    static int code(int x, int y) {
        return 100 * y + x;
    }

    // ---- what a valley holds

    /** All that can be asked of what a valley holds, but for what is in the slots. */
    static String state(EchoValley e) {
        StringBuilder s = new StringBuilder("place " + e.place() + " counts");
        for (int what = 0; what <= 12; what++) {
            s.append(' ').append(e.count(what));
        }
        for (int wall = 0; wall < e.count(0); wall++) {
            s.append(" wall");
            for (int what = 0; what <= 5; what++) {
                s.append(' ').append(e.wall(wall, what));
            }
        }
        s.append(" known");
        for (int k = 0; k <= e.count(9); k++) {
            s.append(' ').append(e.hidden(k, -1));
        }
        for (int k = 0; k <= e.count(10); k++) {
            s.append(' ').append(e.fitting(k, -1));
        }
        s.append(" heard");
        for (int man = 0; man < e.count(1); man++) {
            s.append(' ').append(e.louder(man, 1)).append(' ').append(e.heard(man, e.count(2) - 1));
        }
        s.append(" rings ").append(e.first(0, 0, 0)).append(' ').append(e.first(0, 0, 1));
        return s.toString();
    }
}
