import java.util.ArrayList;
import java.util.List;

/** The edges of the tape and of texts: the Terms of the document, and promises 1 to 5. */
public final class TextEdgeTests {
    private static final Edges T = new Edges("TextEdgeTests");
    private static final String[] WORDS = {"wall", "up", "flat", "man", "ear", "bell", "map", "pace", "fall", "gap"};
    private static final String EIGHT = Edges.many("wall w? up 1 1 1 1;", 8);
    private static final String MEN = Edges.many("man m? 1 1 1;", 6);
    private static final String EARS = Edges.many("ear e? 1 1;", 6);
    private static final String BELLS = Edges.many("bell b? 1 1 1;", 6);
    /** Of each kind some, and a MAP that is small, so that much can be asked of it. */
    private static final String LIVELY = "map 4 3; wall a up 5 0 9 1; wall b flat 7 1 8 2; man m 1 2 50; ear e 3 2; ear f 0 0;"
        + "bell g 2 1 5; pace 7; fall 8; gap 9;";

    public static void main(String[] args) {
        if (run() != 0) {
            System.exit(1);
        }
    }

    static int run() {
        newObject();
        manyCalls();
        fullTape();
        feeding();
        fullFeed();
        takingBack();
        backRefused();
        readEmpties();
        placeOfTheLatest();
        blanks();
        longest();
        everyByte();
        names();
        ints();
        noTokens();
        anyText();
        eachForm();
        earsTold();
        cutForms();
        wrongKinds();
        wallRoom();
        folkRoom();
        tokenRoom();
        roomOrSyntax();
        numbering();
        lastTold();
        notTold();
        twice();
        wrongWalls();
        wheres();
        softs();
        louds();
        whens();
        maps();
        pacesAndFalls();
        toBelowFrom();
        firstOfTwiceAndWrong();
        sides();
        outs();
        outByTheLastMap();
        orderOfFaults();
        faultChangesNothing();
        nextText();
        return T.end();
    }

    // ---- promises 1 to 5

    private static void newObject() {
        T.sentence("As if an empty text had been read.");
        EchoValley e = new EchoValley();
        int[] counts = {0, 0, 0, 0, 20, 20, 10, 10, 100, 0, 0, 0, 0};
        for (int what = 0; what < counts.length; what++) {
            T.due("count " + what, e.count(what), counts[what]);
        }
        EchoValley read = new EchoValley();
        T.due("read", read.read(), 0);
        T.due("a new one", Edges.state(e), Edges.state(read));
        EchoValley old = T.valley(LIVELY);
        old.tell(0, 0, 1, 1);
        old.hold(0);
        T.due("read of an empty tape", old.read(), 0);
        T.due("an old one", Edges.state(old), Edges.state(e));
        T.due("nothing is held", old.restore(0) || e.restore(0), false);
    }

    private static void manyCalls() {
        T.sentence("An object is used for at most 512 calls after it has been made;");
        EchoValley e = new EchoValley();
        // "gap 9; wall w up 6 0 9 0;" with blanks: four calls with the reading.
        e.feed(0x67617020, 0x393b2077, 0x616c6c20, 0x77207570, 0x20362030);
        e.feed(0x20392030, 0x3b202020, 0x20202020, 0x20202020, 0x20202020);
        e.back(3);
        e.read();
        int calls = 4;
        while (calls < 509) {
            e.tell(calls % 20, 0, 9, calls);
            calls++;
        }
        T.due("the 510th", e.count(9), 20);
        T.due("the 511th", e.forget(), 20);
        T.due("the 512th", e.beats(2, 3, 99, 100), 8);
        EchoValley f = new EchoValley();
        for (int i = 0; i < 256; i++) {
            T.due("feed", f.feed(0x21212121, 0, 0, 0, 0), 20);
            if (i < 255) {
                T.due("read", f.read(), 1);
            }
        }
        T.due("the 512th", f.read(), 1);
    }

    private static void fullTape() {
        T.sentence("A TEXT has 2,000 bytes at most.");
        T.fine("gap 7;" + Edges.blanks(1987) + "pace 9;");
        EchoValley e = new EchoValley();
        Edges.put(e, "gap 7;" + Edges.blanks(1987) + "pace 9;");
        T.due("bytes", e.count(11), 2000);
        T.due("read", e.read(), 0);
        T.due("its first", e.count(8), 7);
        T.due("its last", e.count(6), 9);
        T.fault(Edges.blanks(1999) + "!", 1, 1999);
        T.fault(Edges.blanks(1997) + "gap", 1, 2000);
        T.fault("gap" + Edges.blanks(1997), 1, 2000);
    }

    private static void feeding() {
        T.sentence("Twenty bytes, the highest of a first, come behind the tape: how many it has.");
        for (int p = 0; p < 20; p++) {
            int[] five = {0x20202020, 0x20202020, 0x20202020, 0x20202020, 0x20202020};
            five[p / 4] ^= 1 << 8 * (3 - p % 4);
            EchoValley e = new EchoValley();
            T.due("feed", e.feed(five[0], five[1], five[2], five[3], five[4]), 20);
            T.due("read", e.read(), 1);
            T.due("the place of byte " + p, e.place(), p);
        }
        EchoValley e = new EchoValley();
        for (int i = 1; i <= 100; i++) {
            int sign = i == 73 ? 0x20212020 : 0x20202020;
            T.due("feed", e.feed(0x20202020, 0x20202020, sign, 0x20202020, 0x20202020), 20 * i);
        }
        T.due("read", e.read(), 1);
        T.due("place", e.place(), 20 * 72 + 9);
        T.due("behind what is there", e.feed(0x67617020, 0x31202020, 0x20202020, 0x20202020, 0x20202020), 20);
        T.due("less", e.back(15), 5);
        T.due("feed", e.feed(0x323b2020, 0x20202020, 0x20202020, 0x20202020, 0x20202020), 25);
        T.due("read", e.read(), 0);
        T.due("gap 12", e.count(8), 12);
    }

    private static void fullFeed() {
        T.sentence("NONE, and nothing comes, if it would have more than 2,000.");
        for (int spare = 0; spare <= 20; spare++) {
            EchoValley e = new EchoValley();
            for (int i = 0; i < 100; i++) {
                e.feed(0x20202020, 0x20202020, 0x20202020, 0x20202020, 0x20202020);
            }
            T.due("back", e.back(spare), 2000 - spare);
            T.due("feed to " + (2020 - spare), e.feed(0x21212121, 0x21212121, 0x21212121, 0x21212121, 0x21212121),
                spare == 20 ? 2000 : EchoValley.NONE);
            T.due("the tape", e.count(11), spare == 20 ? 2000 : 2000 - spare);
            T.due("once more", e.feed(0x21212121, 0x21212121, 0x21212121, 0x21212121, 0x21212121), EchoValley.NONE);
            T.due("what is there", e.read(), spare == 20 ? 1 : 0);
            T.due("place", e.place(), spare == 20 ? 1980 : EchoValley.NONE);
            T.due("an empty tape takes them", e.feed(0, 0, 0, 0, 0), 20);
        }
    }

    private static void takingBack() {
        T.sentence("The last n bytes of the tape go: how many it has.");
        for (int n = 0; n <= 20; n++) {
            EchoValley e = new EchoValley();
            Edges.put(e, "                   !");
            T.due("back " + n, e.back(n), 20 - n);
            T.due("count", e.count(11), 20 - n);
            T.due("read", e.read(), n == 0 ? 1 : 0);
        }
        EchoValley e = new EchoValley();
        T.due("back 0 of none", e.back(0), 0);
        Edges.put(e, "gap 7;" + Edges.blanks(1994));
        T.due("back 1", e.back(1), 1999);
        T.due("back 0", e.back(0), 1999);
        T.due("back", e.back(1993), 6);
        T.due("read", e.read(), 0);
        T.due("the first ones stay", e.count(8), 7);
        Edges.put(e, Edges.blanks(1999) + "!");
        T.due("all", e.back(2000), 0);
        T.due("read", e.read(), 0);
    }

    private static void backRefused() {
        T.sentence("NONE, and nothing goes, if it has not so many, or n is below 0.");
        EchoValley e = new EchoValley();
        T.due("back 1 of none", e.back(1), EchoValley.NONE);
        Edges.put(e, "gap 7;");
        int[] odd = {7, 8, 20, 2000, 2001, -1, -2, -6, -20, Integer.MAX_VALUE, Integer.MIN_VALUE, Integer.MIN_VALUE + 6,
            256 + 6, 65536 + 6, 1 << 31, -2000};
        for (int n : odd) {
            T.due("back " + n, e.back(n), EchoValley.NONE);
            T.due("the tape", e.count(11), 6);
        }
        T.due("read", e.read(), 0);
        T.due("gap", e.count(8), 7);
        Edges.put(e, Edges.blanks(2000));
        T.due("back 2001", e.back(2001), EchoValley.NONE);
        T.due("back -1", e.back(-1), EchoValley.NONE);
        T.due("the tape", e.count(11), 2000);
    }

    private static void readEmpties() {
        T.sentence("The tape, which is empty then, is read: 0, or the number of its FAULT.");
        String[] texts = {"", "gap 7;", "gap", EIGHT + "wall", "man a 1 1 1;ear a 1 1;", "pace 0;", "ear a 20 1;"};
        int[] due = {0, 0, 1, 2, 3, 5, 6};
        for (int i = 0; i < texts.length; i++) {
            EchoValley e = T.valley("gap 3;");
            Edges.put(e, texts[i]);
            T.due("the tape", e.count(11), texts[i].length());
            T.due("read", e.read(), due[i]);
            T.due("the tape then", e.count(11), 0);
            T.due("gap", e.count(8), texts[i].isEmpty() ? 100 : due[i] == 0 ? 7 : 3);
            T.due("read of what is empty", e.read(), 0);
            T.due("gap then", e.count(8), 100);
        }
    }

    private static void placeOfTheLatest() {
        T.sentence("The byte of the latest read()'s FAULT; NONE without.");
        EchoValley e = new EchoValley();
        T.due("nothing was read", e.place(), EchoValley.NONE);
        Edges.put(e, "!");
        T.due("fed, not read", e.place(), EchoValley.NONE);
        e.read();
        T.due("the first byte", e.place(), 0);
        Edges.put(e, "gap!");
        T.due("fed, not read", e.place(), 0);
        e.back(1);
        T.due("back", e.place(), 0);
        e.read();
        T.due("the text's end", e.place(), 3);
        e.move(0, 1);
        T.due("asked again", e.place(), 3);
        Edges.put(e, "gap 1;");
        e.read();
        T.due("without", e.place(), EchoValley.NONE);
        Edges.put(e, "gap 1; ear a 20 1;");
        e.read();
        T.due("latest", e.place(), 13);
        e.read();
        T.due("an empty text", e.place(), EchoValley.NONE);
    }

    // ---- TOKENS

    private static void blanks() {
        T.sentence("with blanks (9, 10, 13, 32) between or not:");
        T.fine("wall w up 5 0 9 0;man m 1 1 1;ear e 1 1;bell b 1 1 1;map 9 9;pace 1;fall 1;gap 1;");
        T.fine("wall w up5 0 9 0;man m1 1 1;ear e1 1;bell b1 1 1;map9 9;pace1;fall1;gap1;wall v flat0 0 0 0;");
        for (char blank : new char[] {9, 10, 13, 32}) {
            T.fine("" + blank);
            T.fine(blank + "wall w up 5 0 9 0 ;  man m 1 1 1 ; ".replace(' ', blank));
            EchoValley e = T.valley("map 3 4;".replace(' ', blank));
            T.due("wide", e.count(4), 3);
            T.due("high", e.count(5), 4);
        }
        T.fine(" \t\r\n\n\r\t gap \t\r\n\n\r\t 1 \t\r\n\n\r\t ; \t\r\n\n\r\t ");
        for (int sign : new int[] {0, 8, 11, 12, 14, 31, 33, 127, 128, 133, 137, 138, 141, 160, 255}) {
            T.fault("gap" + (char) sign + "1;", 1, 3);
            T.fault("" + (char) sign, 1, 0);
        }
    }

    private static void longest() {
        T.sentence("TOKENS, the longest that can be,");
        T.fault("wallw up 5 0 9 0;", 1, 0);
        T.fault("wall wup 5 0 9 0;", 1, 9);
        T.fault("wall w upflat 5 0 9 0;", 1, 7);
        T.fault("wall w up 50 90;", 1, 15);
        T.fault("map 1 2 3;", 1, 8);
        T.fault("map 12;", 1, 6);
        T.fault("gap 1 2;", 1, 6);
        EchoValley e = T.valley("map 12 3;gap 1234;");
        T.due("wide", e.count(4), 12);
        T.due("high", e.count(5), 3);
        T.due("gap", e.count(8), 1234);
        // A word in quotes with one letter more or less is a NAME.
        for (String word : WORDS) {
            T.fine("ear " + word + "s 1 1;ear " + word.substring(1) + " 1 1;ear " + word.substring(0, word.length() - 1) + " 1 1;");
            T.fine("ear " + word + word + " 1 1;ear x" + word + " 1 1;");
            T.fault(word + "s 1;", 1, 0);
        }
    }

    /** Each byte as a NAME, as an INT and as the sign behind them. */
    private static void everyByte() {
        T.sentence("A longer one, all else, is no TOKEN.");
        for (int v = 0; v < 256; v++) {
            char c = (char) v;
            boolean blank = v == 9 || v == 10 || v == 13 || v == 32;
            boolean letter = c >= 'a' && c <= 'z';
            boolean digit = c >= '0' && c <= '9';
            T.fault("ear " + c + " 1 1;", letter ? 0 : 1, letter ? -1 : blank ? 6 : 4);
            T.fault("ear q" + c + " 1;", digit ? 0 : 1, digit ? -1 : letter || blank ? 8 : 5);
            T.fault("gap " + c + ";", digit ? 0 : 1, digit ? -1 : blank ? 5 : 4);
            T.fault("gap 1" + c, c == ';' ? 0 : 1, c == ';' ? -1 : digit || blank ? 6 : 5);
            T.fault("" + c, blank ? 0 : 1, blank ? -1 : 0);
        }
    }

    private static void names() {
        T.sentence("NAMES (letters a .. z, 8 at most, none of the words in quotes)");
        T.fine("ear a 1 1;ear z 1 1;ear abcdefgh 1 1;ear stuvwxyz 1 1;ear zzzzzzz 1 1;");
        for (int n = 1; n <= 8; n++) {
            T.fine("wall " + "q".repeat(n) + " up 1 1 1 1;");
        }
        for (int n : new int[] {9, 10, 16, 17, 255, 256, 257, 264, 512, 1990}) {
            T.fault("ear " + "q".repeat(n), 1, 4);
        }
        T.fault("ear abcdefghi 1 1;", 1, 4);
        T.fault("ear wallwallw 1 1;", 1, 4);
        T.fault("abcdefghi", 1, 0);
        for (String word : WORDS) {
            T.fault("ear " + word + " 1 1;", 1, 4);
            T.fault("wall " + word + " up 1 1 1 1;", 1, 5);
        }
        T.fault("ear A 1 1;", 1, 4);
        T.fault("ear aB 1 1;", 1, 5);
        T.fault("ear Z 1 1;", 1, 4);
        T.fault("ear a_b 1 1;", 1, 5);
        T.fault("Ear a 1 1;", 1, 0);
        T.fault("eaR a 1 1;", 1, 0);
    }

    private static void ints() {
        T.sentence("INTS (1 to 4 digits)");
        T.fine("gap 0;gap 9;gap 00;gap 99;gap 000;gap 999;gap 0000;gap 9999;");
        String[] told = {"7", "07", "007", "0007", "1234", "9999", "0"};
        int[] worth = {7, 7, 7, 7, 1234, 9999, 0};
        for (int i = 0; i < told.length; i++) {
            T.due("gap " + told[i], T.valley("gap " + told[i] + ";").count(8), worth[i]);
        }
        String[] tooLong = {"00000", "00007", "10000", "99999", "123456", "4294967303", "18446744073709551623", "0".repeat(260)};
        for (String digits : tooLong) {
            T.fault("gap " + digits + ";", 1, 4);
            T.fault("map 1 " + digits + ";", 1, 6);
        }
        T.fault("gap " + "7".repeat(1996), 1, 4);
        T.fault("gap -1;", 1, 4);
        T.fault("gap +1;", 1, 4);
        T.fault("gap 1.5;", 1, 5);
        T.fault("gap ;", 1, 4);
    }

    private static void noTokens() {
        T.sentence("SIGNS ; .");
        T.fine("gap 1;gap 1 ;gap 1\n;");
        for (char sign : new char[] {':', '<', ',', '.', '!', '\'', '"', '(', '|', '{', '}', '/', '@', '`', '~'}) {
            T.fault("gap 1" + sign, 1, 5);
            T.fault("gap 1;" + sign + "gap 1;", 1, 6);
        }
        T.fault("gap 1;;", 1, 6);
        T.fault(";", 1, 0);
    }

    // ---- SYNTAX

    private static void anyText() {
        T.sentence("text: {TELL}.");
        T.fine("");
        T.fine(Edges.blanks(2000));
        T.fine("gap 1;");
        T.fine("fall 9;gap 1;bell b 1 1 1;ear e 1 1;wall v flat 1 1 1 1;man m 1 1 1;pace 1;wall w up 1 1 1 1;map 20 20;");
    }

    private static final String[][] FORMS = {
        {"wall", "w", "up", "5", "0", "9", "0", ";"}, {"wall", "w", "flat", "5", "0", "9", "0", ";"}, {"man", "w", "1", "1", "1", ";"},
        {"ear", "w", "1", "1", ";"}, {"bell", "w", "1", "1", "1", ";"}, {"map", "2", "2", ";"}, {"pace", "1", ";"},
        {"fall", "1", ";"}, {"gap", "1", ";"}};

    private static String joined(String[] form, int end) {
        StringBuilder s = new StringBuilder();
        for (int i = 0; i < end; i++) {
            s.append(i == 0 ? "" : " ").append(form[i]);
        }
        return s.toString();
    }

    private static void eachForm() {
        T.sentence("TELL: 'wall' NAME ('up' | 'flat') INT INT INT INT ';' | 'man' NAME INT INT INT ';' | 'ear' NAME INT INT ';'"
            + " | 'bell' NAME INT INT INT ';' | 'map' INT INT ';' | 'pace' INT ';' | 'fall' INT ';' | 'gap' INT ';'.");
        int[][] counts = {{0, 1}, {0, 1}, {1, 1}, {2, 1}, {3, 1}, {4, 2}, {6, 1}, {7, 1}, {8, 1}};
        for (int i = 0; i < FORMS.length; i++) {
            String whole = joined(FORMS[i], FORMS[i].length);
            T.fine(whole);
            T.fine(whole.replace(" ;", ";"));
            T.due(whole, T.valley(whole).count(counts[i][0]), counts[i][1]);
            T.fault(whole + ";", 1, whole.length());
            T.fault(whole.replace(" ;", " 1 ;"), 1, whole.length() - 1);
            T.fault(whole.replace(" ;", " q ;"), 1, whole.length() - 1);
        }
        EchoValley e = T.valley("wall w flat 5 0 9 0;");
        T.due("flat", e.wall(0, 0), 1);
        T.due("up", T.valley("wall w up 5 0 9 0;").wall(0, 0), 0);
    }

    private static void earsTold() {
        T.sentence("EARS, 6 at most (x, y),");
        T.fine(EARS);
        T.fault(EARS + "ear", 2, EARS.length());
        EchoValley e = T.valley("map 40 30;fall 99;man m 39 29 9;ear a 39 29;ear b 0 0;ear c 39 0;ear d 0 29;");
        T.due("the last place", e.whose(0, 0), 1);
        T.due("the first place", e.whose(1, 4860), 1);
        T.due("x alone", e.whose(2, 2900), 1);
        T.due("y alone", e.whose(3, 3900), 1);
    }

    private static void cutForms() {
        T.sentence("the first by its place (a byte; the text's end: its length)");
        for (String[] form : FORMS) {
            T.fine(joined(form, form.length));
            for (int end = 1; end < form.length; end++) {
                String cut = joined(form, end);
                T.fault(cut, 1, cut.length());
                T.fault(cut + " \n", 1, cut.length() + 2);
                T.fault("gap 5;" + cut, 1, cut.length() + 6);
                // What is left out is missed at the TOKEN that stands there.
                if (end + 1 < form.length && !form[end].equals(form[end + 1]) && !isInt(form[end])) {
                    String rest = joined(java.util.Arrays.copyOfRange(form, end + 1, form.length), form.length - end - 1);
                    T.fault(cut + " " + rest, 1, cut.length() + 1);
                }
            }
            String whole = joined(form, form.length);
            T.fault(whole + " " + "gap", 1, whole.length() + 4);
        }
    }

    private static boolean isInt(String token) {
        return Character.isDigit(token.charAt(0));
    }

    private static char kind(String token) {
        if (token.equals("up") || token.equals("flat")) {
            return 's';
        }
        for (String word : WORDS) {
            if (word.equals(token)) {
                return 'w';
            }
        }
        return isInt(token) ? token.length() <= 4 ? 'i' : '?' : token.equals(";") ? ';' : token.matches("[a-z]{1,8}") ? 'n' : '?';
    }

    private static void wrongKinds() {
        T.sentence("1 SYNTAX: a TOKEN, or what is none, with which no text goes on.");
        List<String> all = new ArrayList<>(List.of(WORDS));
        all.addAll(List.of("q", "3", ";", "!", "abcdefghi", "12345"));
        for (String[] form : FORMS) {
            for (int i = 0; i < form.length; i++) {
                for (String token : all) {
                    if (kind(token) == kind(form[i]) && (i == 0 || kind(token) != 'w')) {
                        continue;
                    }
                    String ahead = i == 0 ? "gap 1; " : joined(form, i) + " ";
                    T.fault(ahead + token + " " + joined(java.util.Arrays.copyOfRange(form, i, form.length), form.length - i), 1,
                        ahead.length());
                }
            }
        }
    }

    // ---- ROOM

    private static void wallRoom() {
        T.sentence("WALLS, 8 at most");
        T.fine(EIGHT);
        T.due("walls", T.valley(EIGHT).count(0), 8);
        T.fault(EIGHT + "wall", 2, EIGHT.length());
        T.fault(EIGHT + " wall x up 1 1 1 1;", 2, EIGHT.length() + 1);
        T.fault(EIGHT.replace("up", "flat") + "wall x up 1 1 1 1;", 2, EIGHT.length() + 16);
        T.fault(EIGHT + MEN + EARS + BELLS + "gap 1;wall", 2, (EIGHT + MEN + EARS + BELLS).length() + 6);
        T.fine(MEN + EARS + BELLS + EIGHT);
    }

    private static void folkRoom() {
        T.sentence("a 9th wall, a 7th man, ear or bell (at its first TOKEN).");
        String[] full = {MEN, EARS, BELLS};
        String[] word = {"man", "ear", "bell"};
        String[] rest = {" x 1 1 1;", " x 1 1;", " x 1 1 1;"};
        for (int i = 0; i < 3; i++) {
            T.fine(full[i]);
            T.due("of them", T.valley(full[i]).count(1 + i), 6);
            T.fault(full[i] + word[i], 2, full[i].length());
            T.fault(full[i] + "\n" + word[i] + rest[i], 2, full[i].length() + 1);
            T.fault(EIGHT + full[i] + word[i] + rest[i], 2, EIGHT.length() + full[i].length());
            T.fault(full[i] + "gap 1;" + word[i] + word[i], 1, full[i].length() + 6);
            T.fault(full[i] + "gap 1;" + word[i] + " " + word[i], 2, full[i].length() + 6);
            T.fault(full[i] + word[i] + rest[i] + EIGHT + "wall", 2, full[i].length());
        }
        T.fine(EIGHT + MEN + EARS + BELLS);
        T.fine(BELLS + EARS + MEN + EIGHT);
    }

    private static void tokenRoom() {
        T.sentence("2 ROOM: a 401st TOKEN;");
        String full = "map1 1;".repeat(100);
        T.fine(full);
        T.fine(full + Edges.blanks(1300));
        T.fault(full + "gap 1;", 2, full.length());
        T.fault(full + " \t map", 2, full.length() + 3);
        T.fault("\n" + full + "wall", 2, full.length() + 1);
        // 399 TOKENS, and more.
        String less = "gap1;".repeat(133);
        T.fine(less);
        T.fault(less + "gap 1;", 2, less.length() + 4);
        T.fault(less + "gap 12345;", 1, less.length() + 4);
        // 398: the third one more is the 401st.
        String two = "map1 1;".repeat(98) + "gap1;gap1;";
        T.fault(two + "gap 1;", 2, two.length() + 5);
        T.fault(two + "gap 1", 1, two.length() + 5);
        String one = "map1 1;".repeat(99) + "gap1;";
        T.fault(one + "gap1;", 2, one.length() + 3);
        T.fault(one + "pace;", 1, one.length() + 4);
        // The 400th counts, and what is told by it.
        String last = full.substring(7);
        EchoValley e = T.valley(last + "map2 3;");
        T.due("wide", e.count(4), 2);
        T.due("high", e.count(5), 3);
        T.fault(last + "map2 0;", 5, last.length() + 5);
        String ear = "map1 1;".repeat(98) + "gap1;";
        T.fine(ear + "ear e0 0;");
        T.due("ears", T.valley(ear + "ear e0 0;").count(2), 1);
        T.fault(ear + "ear e0 1;", 6, ear.length() + 7);
        T.fault("ear e0 0;" + "map1 1;".repeat(97) + "ear e0 0;", 3, 9 + 7 * 97 + 4);
        // Far more of them are the 401st too.
        String most = "map1 1;".repeat(285);
        T.fault(most, 2, 700);
    }

    private static void roomOrSyntax() {
        T.sentence("of one place the least:");
        String full = "map1 1;".repeat(100);
        T.fault(full + "up", 1, full.length());
        T.fault(full + "x", 1, full.length());
        T.fault(full + "7", 1, full.length());
        T.fault(full + ";", 1, full.length());
        T.fault(full + "!", 1, full.length());
        T.fault(full + "mapp", 1, full.length());
        String less = "gap1;".repeat(133) + "gap";
        T.fault(less, 1, less.length());
        T.fault(less + ";", 1, less.length());
        T.fault(less + "!", 1, less.length());
        T.fault(less + "12345", 1, less.length());
        T.fault(less + "1;", 2, less.length());
        // By the place first: the least number is of no matter.
        T.fault(EIGHT + "wall!", 2, EIGHT.length());
        T.fault(EIGHT + "!wall", 1, EIGHT.length());
        T.fault(EIGHT + "wall " + full + "!", 2, EIGHT.length());
        T.fault("!" + full + full.substring(0, 7), 1, 0);
        T.fault(full + "map1 1;!", 2, full.length());
        T.fault(full.substring(0, 693) + "map 1!" + full, 1, 698);
    }

    // ---- what is told

    private static void numbering() {
        T.sentence("are numbered each from 0 on as they stand.");
        EchoValley e = T.valley("map 9 9;bell ba 3 3 7;wall wa up 11 1 2 3;man ma 0 0 2;ear ea 0 0;wall wb flat 12 4 5 6;man mb 8 8 1;"
            + "ear eb 8 8;bell bb 5 5 2;fall 9;wall wc up 13 7 8 9;");
        int[][] walls = {{0, 11, 1, 2, 3, 1}, {1, 12, 4, 5, 6, 1}, {0, 13, 7, 8, 9, 1}};
        for (int i = 0; i < walls.length; i++) {
            for (int what = 0; what < 6; what++) {
                T.due("wall " + i + " " + what, e.wall(i, what), walls[i][what]);
            }
        }
        T.due("the first man at the first ear", e.whose(0, 0), 1);
        T.due("the second man at the second ear", e.whose(1, 0), 2);
        T.due("the first bell", e.first(3, 3, 0), 0);
        T.due("when", e.first(3, 3, 1), 7);
        T.due("the second bell", e.first(5, 5, 0), 1);
        T.due("when", e.first(5, 5, 1), 2);
        EchoValley full = T.valley("map 9 9;" + "man m? 0 # 9;ear e? 0 #;bell b? 0 # #;".replace('?', 'a').replace('#', '0')
            + "man mb 0 1 9;ear eb 0 1;bell bb 0 1 1;man mc 0 2 9;ear ec 0 2;bell bc 0 2 2;man md 0 3 9;ear ed 0 3;bell bd 0 3 3;"
            + "man me 0 4 9;ear ee 0 4;bell be 0 4 4;man mf 0 5 9;ear ef 0 5;bell bf 0 5 5;");
        for (int i = 0; i < 6; i++) {
            T.due("man and ear " + i, full.whose(i, 0), 1 << i);
            T.due("bell " + i, full.first(0, i, 0), i);
            T.due("when " + i, full.first(0, i, 1), i);
        }
        StringBuilder eight = new StringBuilder();
        for (int i = 0; i < 8; i++) {
            eight.append("wall w").append((char) ('a' + i)).append(" flat ").append(10 + i).append(" 0 9 0;");
        }
        EchoValley w = T.valley(eight.toString());
        for (int i = 0; i < 8; i++) {
            T.due("wall " + i, w.wall(i, 1), 10 + i);
        }
    }

    private static void lastTold() {
        T.sentence("of several the last one told.");
        EchoValley e = T.valley("map 9 8;pace 7;fall 6;gap 5;map 4 3;pace 2;fall 1;gap 0;");
        int[] want = {4, 3, 2, 1, 0};
        for (int i = 0; i < 5; i++) {
            T.due("count " + (4 + i), e.count(4 + i), want[i]);
        }
        e = T.valley("gap 0;fall 1;pace 2;map 3 4;gap 9999;fall 99;pace 99;map 40 40;");
        int[] most = {40, 40, 99, 99, 9999};
        for (int i = 0; i < 5; i++) {
            T.due("count " + (4 + i), e.count(4 + i), most[i]);
        }
    }

    private static void notTold() {
        T.sentence("whole numbers (1 .. 40 each; 20 and 20 if not told).");
        String[] texts = {"map 3 4;", "pace 3;", "fall 3;", "gap 3;", "ear e 1 1;"};
        int[][] want = {{3, 4, 10, 10, 100}, {20, 20, 3, 10, 100}, {20, 20, 10, 3, 100}, {20, 20, 10, 10, 3}, {20, 20, 10, 10, 100}};
        for (int t = 0; t < texts.length; t++) {
            EchoValley e = T.valley("map 9 9;pace 9;fall 9;gap 9;");
            T.read(e, texts[t]);
            for (int i = 0; i < 5; i++) {
                T.due("count " + (4 + i) + " of " + texts[t], e.count(4 + i), want[t][i]);
            }
        }
        EchoValley e = new EchoValley();
        T.due("the last place", e.returns(19, 19, 19, 19, 1), 1);
        T.due("x 20", e.returns(20, 0, 0, 0, 1), EchoValley.NONE);
        T.due("y 20", e.returns(0, 20, 0, 0, 1), EchoValley.NONE);
    }

    // ---- TWICE and WRONG

    private static final String[] NAMED = {"wall ? up 1 1 1 1;", "man ? 1 1 1;", "ear ? 1 1;", "bell ? 1 1 1;"};

    private static void twice() {
        T.sentence("3 TWICE: a NAME told already (of all kinds together).");
        for (String one : NAMED) {
            for (String two : NAMED) {
                String ahead = one.replace("?", "abcdefgh");
                T.fault(ahead + two.replace("?", "abcdefgh"), 3, ahead.length() + two.indexOf('?'));
                T.fine(ahead + two.replace("?", "abcdefgi"));
                T.fine(ahead + two.replace("?", "bbcdefgh"));
                T.fine(ahead + two.replace("?", "abcdefg"));
            }
        }
        T.fine("ear a 1 1;ear aa 1 1;ear aaa 1 1;ear b 1 1;ear ab 1 1;ear ba 1 1;");
        // At the first NAME that was told, and only there.
        T.fault("ear a 1 1;ear b 1 1;ear b 1 1;ear a 1 1;", 3, 24);
        String all = EIGHT + MEN + EARS + BELLS.substring(0, BELLS.length() - 14);
        T.fault(all + "bell wa 1 1 1;", 3, all.length() + 5);
        T.fault(all + "bell be 1 1 1;", 3, all.length() + 5);
        // What stands beside a NAME is no part of it.
        T.fault("ear a 1 1;ear\ta 1 1;", 3, 14);
        T.fault("ear a 1 1;ear  a\n1 1;", 3, 15);
        T.fault("ear a 1 1;ear a1 1;", 3, 14);
        T.fault("ear a1 1;man a 1 1 1;", 3, 13);
        // A NAME of an earlier text is not told in this one.
        EchoValley e = T.valley("ear a 1 1;");
        T.read(e, "ear a 1 1;");
        T.due("ears", e.count(2), 1);
    }

    private static void wrongWalls() {
        T.sentence("x, y, from, to, where a WALL stands above 99;");
        T.fine("map 40 40;wall w up 99 99 99 99;");
        T.fine("wall w flat 0 0 99 0;wall v flat 99 0 0 0;");
        T.fault("wall w up 100 0 9 0;", 5, 10);
        T.fault("wall w flat 9999 0 9 0;", 5, 12);
        T.fault("wall w up 5 100 100 0;", 5, 12);
        T.fault("wall w up 5 0 100 0;", 5, 14);
        for (String word : new String[] {"man", "ear", "bell"}) {
            String rest = word.equals("ear") ? ";" : " 1;";
            int at = word.length() + 3;
            T.fault("map 40 40;" + word + " m 99 0" + rest, 6, 10 + at);
            T.fault("map 40 40;" + word + " m 0 99" + rest, 6, 12 + at);
            T.fault("map 40 40;" + word + " m 100 0" + rest, 5, 10 + at);
            T.fault("map 40 40;" + word + " m 0 100" + rest, 5, 12 + at);
            T.fault("map 40 40;" + word + " m 9999 9999" + rest, 5, 10 + at);
        }
    }

    /** The i-th INT of a form may be from least to most. */
    private static void wrong(String ahead, String behind, int least, int most) {
        T.fine(ahead + least + behind);
        T.fine(ahead + most + behind);
        if (least > 0) {
            T.fault(ahead + (least - 1) + behind, 5, ahead.length());
        }
        if (most < 9999) {
            T.fault(ahead + (most + 1) + behind, 5, ahead.length());
            T.fault(ahead + 9999 + behind, 5, ahead.length());
            T.fault(ahead + Math.min(9999, most + 256) + behind, 5, ahead.length());
        }
    }

    private static void wheres() {
        T.sentence("5 WRONG (at the INT): a number not as told above;");
        wrong("wall w up ", " 1 1 1;", 0, 99);
        wrong("wall w flat ", " 1 1 1;", 0, 99);
        wrong("wall w flat 1 ", " 99 1;", 0, 99);
        wrong("wall w up 1 7 ", " 1;", 7, 99);
    }

    private static void softs() {
        T.sentence("SOFT 0 .. 99)");
        wrong("wall w up 1 1 1 ", ";", 0, 99);
        T.due("SOFT 0", T.valley("wall w up 1 1 1 0;").wall(0, 4), 0);
        T.due("SOFT 99", T.valley("wall w up 1 1 1 99;").wall(0, 4), 99);
    }

    private static void louds() {
        T.sentence("MEN, 6 at most (x, y, LOUD 1 .. 99)");
        wrong("man m 1 1 ", ";", 1, 99);
        T.due("LOUD 1", T.valley("man m 1 1 1;").louder(0, 1) > 0, true);
        T.due("LOUD 1", T.valley("man m 1 1 1;").louder(0, 2), 0);
        T.due("LOUD 99", T.valley("man m 1 1 99;").louder(0, 99) > 0, true);
    }

    private static void whens() {
        T.sentence("BELLS, 6 at most (x, y, when: 0 .. 9999)");
        wrong("bell m 1 1 ", ";", 0, 9999);
        T.due("when 0", T.valley("bell b 1 1 0;").first(1, 1, 1), 0);
        T.due("when 9999", T.valley("bell b 1 1 9999;").first(1, 1, 1), 9999);
        T.due("when 9999, and a way", T.valley("map 40 40;pace 1;bell b 0 0 9999;").first(39, 0, 1), 48999);
    }

    private static void maps() {
        T.sentence("MAP: places (x, y) with 0 <= x < WIDE, 0 <= y < HIGH, whole numbers (1 .. 40 each;");
        wrong("map ", " 1;", 1, 40);
        wrong("map 1 ", ";", 1, 40);
        T.range("map 1 1;", "returns", (e, a) -> e.returns(a[0], a[1], a[2], a[3], 9), new int[4], 0, 0, 0);
        T.range("map 1 1;", "returns", (e, a) -> e.returns(a[0], a[1], a[2], a[3], 9), new int[4], 1, 0, 0);
        T.range("map 40 39;", "returns", (e, a) -> e.returns(a[0], a[1], a[2], a[3], 9), new int[4], 2, 0, 39);
        T.range("map 39 40;", "returns", (e, a) -> e.returns(a[0], a[1], a[2], a[3], 9), new int[4], 3, 0, 39);
        T.due("places of the greatest", T.valley("map 40 40;").fitting(0, -1), 1600);
        T.due("places of the least", T.valley("map 1 1;").fitting(0, -1), 1);
    }

    private static void pacesAndFalls() {
        T.sentence("PACE 1 .. 99 (10), FALL 1 .. 99 (10), GAP 0 .. 9999 (100);");
        wrong("pace ", ";", 1, 99);
        wrong("fall ", ";", 1, 99);
        wrong("gap ", ";", 0, 9999);
    }

    private static void toBelowFrom() {
        T.sentence("to below from.");
        for (String side : new String[] {"up", "flat"}) {
            String ahead = "wall w " + side + " 50 ";
            T.fine(ahead + "0 0 0;");
            T.fine(ahead + "99 99 0;");
            T.fine(ahead + "7 7 0;");
            T.fine(ahead + "7 8 0;");
            T.fault(ahead + "7 6 0;", 5, ahead.length() + 2);
            T.fault(ahead + "99 98 0;", 5, ahead.length() + 3);
            T.fault(ahead + "1 0 0;", 5, ahead.length() + 2);
            T.fault(ahead + "99 0 0;", 5, ahead.length() + 3);
        }
        T.fault("wall w up 0 9 8 100;", 5, 14);
        // Above 99 is WRONG at from, also if to is no less.
        T.fault("wall w up 0 100 101 0;", 5, 12);
    }

    private static void firstOfTwiceAndWrong() {
        T.sentence("If there is none, likewise: 3 TWICE:");
        T.fault("man a 1 1 0;ear a 1 1;", 5, 10);
        T.fault("man a 1 1 1;ear a 100 1;", 3, 16);
        T.fault("man a 1 1 1;ear b 100 1;ear a 1 1;", 5, 18);
        T.fault("man a 1 1 1;ear a 1 1;pace 0;", 3, 16);
        T.fault("pace 0;man a 1 1 1;ear a 1 1;", 5, 5);
        T.fault("pace 0;gap 1;fall 0;", 5, 5);
        // SYNTAX and ROOM anywhere go before them.
        T.fault("pace 0;man a 1 1 0;man a 1 1 1;!", 1, 31);
        T.fault("pace 0;man a 1 1 0;man a 1 1 1;gap", 1, 34);
        T.fault("man ma 1 1 0;" + MEN + "man", 2, 13 + MEN.length() - 13);
        T.fault("pace 0;" + EIGHT + "wall", 2, 7 + EIGHT.length());
        T.fault("pace 0;" + "gap1;".repeat(133) + "gap1;", 2, 7 + 5 * 132 + 3);
    }

    // ---- up and flat

    private static void sides() {
        T.sentence("up: all places with x as told and y from .. to; flat: with y as told and x from .. to;");
        EchoValley e = T.valley("map 20 18;wall a up 9 2 4 0;");
        for (int y = 0; y < 18; y++) {
            T.due("up at y " + y, e.returns(5, y, 5, y, 9), y >= 2 && y <= 4 ? 2 : 1);
            T.due("through it at y " + y, e.returns(5, y, 13, y, 9), y >= 2 && y <= 4 ? 0 : 1);
        }
        e = T.valley("map 18 20;wall a flat 9 2 4 0;");
        for (int x = 0; x < 18; x++) {
            T.due("flat at x " + x, e.returns(x, 5, x, 5, 9), x >= 2 && x <= 4 ? 2 : 1);
            T.due("through it at x " + x, e.returns(x, 5, x, 13, 9), x >= 2 && x <= 4 ? 0 : 1);
        }
        e = T.valley("wall a up 99 0 99 0;wall b flat 99 0 99 0;");
        T.due("far off", e.touch(0, 0, 0, 0, 10, 0, false), 99000);
        T.due("far off", e.touch(0, 0, 0, 0, 11, 0, true), 99000);
        e = T.valley("wall a up 0 0 0 0;wall b flat 0 0 0 0;");
        T.due("at 0", e.touch(5, 0, 5, 0, 10, 0, false), 0);
        T.due("at 0", e.touch(0, 5, 0, 5, 11, 0, true), 0);
    }

    // ---- OUT

    private static void outs() {
        T.sentence("6 OUT, at the first INT that is so: x of a man, an ear, a bell not below WIDE, y not below HIGH.");
        String[] word = {"man", "ear", "bell"};
        String[] rest = {" 1;", ";", " 1;"};
        for (int i = 0; i < 3; i++) {
            String map = "map 7 5;" + word[i] + " q ";
            int at = map.length();
            T.fine(map + "6 4" + rest[i]);
            T.fine(map + "0 0" + rest[i]);
            T.fault(map + "7 4" + rest[i], 6, at);
            T.fault(map + "6 5" + rest[i], 6, at + 2);
            T.fault(map + "7 5" + rest[i], 6, at);
            T.fault(map + "99 0" + rest[i], 6, at);
            T.fault(map + "5 99" + rest[i], 6, at + 2);
            T.fine(word[i] + " q 19 19" + rest[i]);
            T.fault(word[i] + " q 20 19" + rest[i], 6, word[i].length() + 3);
            T.fault(word[i] + " q 19 20" + rest[i], 6, word[i].length() + 6);
            T.fine("map 40 40;" + word[i] + " q 39 39" + rest[i]);
            T.fault("map 40 40;" + word[i] + " q 40 39" + rest[i], 6, word[i].length() + 13);
            T.fault("map 40 40;" + word[i] + " q 39 40" + rest[i], 6, word[i].length() + 16);
            T.fine("map 1 1;" + word[i] + " q 0 0" + rest[i]);
            T.fault("map 1 1;" + word[i] + " q 1 0" + rest[i], 6, word[i].length() + 11);
            T.fault("map 1 1;" + word[i] + " q 0 1" + rest[i], 6, word[i].length() + 13);
        }
        // Loudness, when and walls are not on the MAP.
        T.fine("map 1 1;man m 0 0 99;bell b 0 0 9999;wall w up 99 98 99 99;wall v flat 50 0 99 0;pace 99;fall 99;gap 9999;");
        T.fault("map 5 5;man a 4 4 9;ear b 4 4;bell c 4 4 9;bell d 4 5 9;ear e 5 5;", 6, 52);
    }

    private static void outByTheLastMap() {
        T.sentence("y not below HIGH.");
        T.fine("ear e 29 3;map 30 4;");
        T.fault("ear e 30 3;map 30 4;", 6, 6);
        T.fault("ear e 29 4;map 30 4;", 6, 9);
        T.fault("map 30 30;ear e 9 9;map 9 30;", 6, 16);
        T.fine("map 9 9;ear e 29 29;map 30 30;");
        T.fault("map 9 9;ear e 29 29;map 30 29;", 6, 17);
        T.fault("map 30 30;ear e 10 10;map 30 30;map 10 11;", 6, 16);
    }

    private static void orderOfFaults() {
        T.sentence("If there is none: 6 OUT,");
        T.fault("man m 50 1 1;pace 0;", 5, 18);
        T.fault("man m 50 1 1;ear m 1 1;", 3, 17);
        T.fault("man m 50 1 1;!", 1, 13);
        T.fault("man ma 50 1 1;" + MEN.substring(13) + "man x", 2, 14 + MEN.length() - 13);
        T.fault("man m 50 1 1;ear n 60 60;pace 99;", 6, 6);
        T.fault("man m 1 1 1;ear n 60 100;", 5, 21);
        T.fault("man m 50 1 100;", 5, 11);
    }

    // ---- one text and the next

    private static void faultChangesNothing() {
        T.sentence("A text with a FAULT changes nothing but the tape;");
        String good = "map 9 9;pace 1;fall 1;gap 1;wall z up 1 1 1 1;man y 1 1 1;ear x 1 1;bell w 1 1 1;";
        String[] bad = {good + "!", good + "gap", good + EIGHT, good + "ear z 1 1;", good + "pace 0;", good + "ear q 9 9;",
            "map1 1;".repeat(101), "!", "x", Edges.blanks(1999) + "!"};
        for (String text : bad) {
            EchoValley e = T.valley(LIVELY);
            e.stands(1, false);
            e.pace(12);
            e.move(0, 4);
            e.hold(1);
            e.move(0, 6);
            e.tell(0, 0, 99, 1000);
            e.shout(0, 0, 99, 1000);
            String before = Edges.state(e).replaceFirst("place -?\\d+", "");
            Edges.put(e, text);
            T.due("a FAULT", e.read() != 0, true);
            T.due("behind " + text, Edges.state(e).replaceFirst("place -?\\d+", ""), before);
            T.due("what is held", e.restore(1), true);
            T.due("where", e.wall(0, 1), 4);
            T.due("there", e.wall(1, 5), 0);
            T.due("held no more than it was", e.restore(0) || e.restore(2), false);
        }
    }

    private static void nextText() {
        T.sentence("else it is in place of the one ahead: nothing is TOLD, SLOTS hold nothing.");
        for (String text : new String[] {"", LIVELY, "gap 7;", "wall q up 3 0 9 0;"}) {
            EchoValley e = T.valley(LIVELY);
            e.stands(1, false);
            e.move(0, 4);
            e.pace(12);
            for (int slot = 0; slot < 3; slot++) {
                e.hold(slot);
            }
            e.tell(0, 0, 99, 1000);
            e.shout(0, 0, 99, 1000);
            T.read(e, text);
            T.due("as on a new one: " + text, Edges.state(e), Edges.state(T.valley(text)));
            T.due("echoes", e.count(9), 0);
            T.due("shouts", e.count(10), 0);
            T.due("slots", e.count(12), 0);
            T.due("restore", e.restore(0) || e.restore(1) || e.restore(2), false);
            T.due("a first echo", e.tell(0, 0, 9, 9), 0);
            T.due("a first shout", e.shout(0, 0, 9, 9), 0);
        }
        // Full and empty by turns.
        EchoValley e = new EchoValley();
        for (int i = 0; i < 3; i++) {
            T.read(e, EIGHT + MEN + EARS + BELLS);
            T.due("walls", e.count(0), 8);
            T.due("men", e.count(1), 6);
            T.due("ears", e.count(2), 6);
            T.due("bells", e.count(3), 6);
            T.read(e, "gap 1;");
            for (int what = 0; what < 4; what++) {
                T.due("count " + what, e.count(what), 0);
            }
            T.due("no wall of the one ahead", e.wall(0, 0), EchoValley.NONE);
            T.due("nor what comes off it", e.returns(2, 1, 2, 1, 99), 1);
        }
    }
}
