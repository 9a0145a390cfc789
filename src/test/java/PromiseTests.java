import java.util.Arrays;

/** Each promise of the document by answers worked out by hand: ordinary ones, edges, wrong arguments. */
public final class PromiseTests {
    private static int wrong = 0;
    private static int promise = 0;
    private static final int[] ODD = {-1, -2, -100, 100000, Integer.MAX_VALUE, Integer.MIN_VALUE};

    private static void due(String what, int got, int want) {
        if (got != want) {
            wrong++;
            System.out.println("promise " + promise + ": " + what + " answered " + got + ", due is " + want);
        }
    }

    private static void due(String what, boolean got, boolean want) {
        due(what, got ? 1 : 0, want ? 1 : 0);
    }

    // ---- texts

    private static void put(EchoValley e, String text) {
        Edges.put(e, text);
    }

    private static EchoValley valley(String text) {
        EchoValley e = new EchoValley();
        put(e, text);
        due("read of " + text, e.read(), 0);
        return e;
    }

    private static void fault(String text, int number, int place) {
        EchoValley e = new EchoValley();
        put(e, text);
        due("read of " + text, e.read(), number);
        due("place of " + text, e.place(), place);
    }

    private static void fine(String text) {
        fault(text, 0, -1);
    }

    private static String many(String part, int times) {
        return Edges.many(part, times);
    }

    private static int code(int x, int y) {
        return Edges.code(x, y);
    }

    public static void main(String[] args) {
        if (run() != 0) {
            System.exit(1);
        }
    }

    static int run() {
        tape();
        texts();
        reading();
        walls();
        returns();
        order();
        ways();
        blocking();
        touches();
        heardAndDrowned();
        beatsAndStand();
        deafAndLouder();
        canon();
        put();
        hush();
        whose();
        alongAndNearest();
        bells();
        chirp();
        tellAndForget();
        hiddenAndNext();
        fog();
        stepping();
        slots();
        counts();
        System.out.println(wrong == 0 ? "PromiseTests: all as due" : "PromiseTests: " + wrong + " not as due");
        return wrong;
    }

    // ---- promises 1 to 5

    private static void tape() {
        promise = 1;
        due("NONE", EchoValley.NONE, -1);
        EchoValley e = new EchoValley();
        int[] fresh = {0, 0, 0, 0, 20, 20, 10, 10, 100, 0, 0, 0, 0};
        for (int what = 0; what < fresh.length; what++) {
            due("count " + what, e.count(what), fresh[what]);
        }
        due("place", e.place(), -1);
        due("returns", e.returns(19, 19, 0, 0, 9), 1);
        due("restore", e.restore(0), false);

        promise = 2;
        // "pace 7;" and blanks: the highest byte of the first number comes first.
        due("feed", e.feed(0x70616365, 0x20373b20, 0x20202020, 0x20202020, 0x20202020), 20);
        due("read", e.read(), 0);
        due("pace", e.count(6), 7);
        for (int i = 1; i <= 100; i++) {
            due("feed", e.feed(0x20202020, 0x09090909, 0x0a0a0a0a, 0x0d0d0d0d, 0x20202020), 20 * i);
        }
        due("feed too much", e.feed(0, 0, 0, 0, 0), -1);
        due("tape", e.count(11), 2000);
        due("back 1", e.back(1), 1999);
        due("feed too much by 19", e.feed(0, 0, 0, 0, 0), -1);
        due("back 18", e.back(18), 1981);
        due("feed too much by 1", e.feed(0, 0, 0, 0, 0), -1);
        due("back 1", e.back(1), 1980);
        due("feed to the end", e.feed(0x20202020, 0x20202020, 0x20202020, 0x20202020, 0x20202067), 2000);
        due("read", e.read(), 1);
        due("place", e.place(), 1999);
        due("tape", e.count(11), 0);
        e.feed(-1, -1, -1, -1, -1);
        due("read of 255", e.read(), 1);
        due("place of 255", e.place(), 0);

        promise = 3;
        due("back 0", e.back(0), 0);
        due("back 1", e.back(1), -1);
        e.feed(0x67617031, 0x3b212121, 0x21212121, 0x21212121, 0x21212121);
        due("back -1", e.back(-1), -1);
        due("back 21", e.back(21), -1);
        for (int n : ODD) {
            due("back", e.back(n), -1);
        }
        due("back 15", e.back(15), 5);
        due("read", e.read(), 0);
        due("gap", e.count(8), 1);
        e.feed(0, 0, 0, 0, 0);
        due("back 20", e.back(20), 0);
    }

    private static void texts() {
        promise = 4;
        fine("");
        fine(" \t\n\r");
        fine("wall w up 5 0 9 0;");
        fine("wall w up5 0 9 0;wall v flat 99 99 99 99;");
        fine("wall abcdefgh up 5 0 9 0;");
        fine("wall upp up 5 0 9 0; man walls 0 0 1; ear u 0 0; bell gaps 0 0 0;");
        fine("gap 9999;gap0000;gap0099;pace 99;fall 99;map 40 40;map 1 1;pace 0001;");
        fault("wall", 1, 4);
        fault("wall w up 5 0 9 0 ", 1, 18);
        fault("wallw up 5 0 9 0;", 1, 0);
        fault("wall w3up 5 0 9 0;", 1, 6);
        fault("wall up up 5 0 9 0;", 1, 5);
        fault("wall gap up 5 0 9 0;", 1, 5);
        fault("wall w w 5 0 9 0;", 1, 7);
        fault("wall w gap 5 0 9 0;", 1, 7);
        fault("wall w up 5 0 9;", 1, 15);
        fault("wall w up 5 0 9 0 1;", 1, 18);
        fault("wall abcdefghi up 5 0 9 0;", 1, 5);
        fault("man m up 5 5 5;", 1, 6);
        fault("man m 5 5;", 1, 9);
        fault("ear m 5 5 5;", 1, 10);
        fault("bell m 5 5;", 1, 10);
        fault("map 5;", 1, 5);
        fault("map m 5 5;", 1, 4);
        fault("pace;", 1, 4);
        fault("fall 5 5;", 1, 7);
        fault("gap 12345;", 1, 4);
        fault("gap 00001;", 1, 4);
        fault("gap 1.", 1, 5);
        fault("gap -1;", 1, 4);
        fault("gap 1;;", 1, 6);
        fault("gap 1;x", 1, 6);
        fault("gap 1; up", 1, 7);
        fault("gap 1; 7", 1, 7);
        fault("Gap 1;", 1, 0);
        fault("gap 1;\u000b", 1, 6);
        fault("gap 1;\u00a0", 1, 6);
        fault("gap 1;`", 1, 6);
        fault("gap 1;{", 1, 6);
        fault("gap /1;", 1, 4);
        fault("gap 1:", 1, 5);
        rooms();
        namesAndNumbers();
        outs();
    }

    private static void rooms() {
        String walls = many("wall ? up 1 1 1 1;", 8);
        fine(walls);
        fault(walls + "wall", 2, walls.length());
        fault(walls + "wall wall", 2, walls.length());
        fault(walls + "!wall", 1, walls.length());
        fault(walls + "man m 1 1 1;wall a up 100 1 1 1;", 2, walls.length() + 12);
        String men = many("man m? 1 1 1;", 6);
        String ears = many("ear e? 1 1;", 6);
        String bells = many("bell b? 1 1 1;", 6);
        fine(walls + men + ears + bells);
        fault(men + " man q 1 1 1;", 2, men.length() + 1);
        fault(ears + "ear q 1 1;", 2, ears.length());
        fault(bells + "bell q 1 1 1;", 2, bells.length());
        fault(walls + men + ears + bells + "ear", 2, (walls + men + ears + bells).length());

        // 133 times three TOKENS and one: the 400th is a word, what comes then is one too many.
        String full = many("gap1;", 133);
        fine(full);
        fault(full + "gap", 1, full.length() + 3);
        fault(full + "gap 1;", 2, full.length() + 4);
        fault(full + "gap gap", 1, full.length() + 4);
        fault(full + "gap !", 1, full.length() + 4);
        String even = many("map1 1;", 100);
        fine(even);
        fine(even + "  ");
        EchoValley last = valley(even.substring(7) + "map2 3;");
        due("the last of 400 TOKENS", 10 * last.count(4) + last.count(5), 23);
        fault(even + "map1 1;", 2, even.length());
        fault(even + ";", 1, even.length());
        fault("!" + even + even.substring(0, 500), 1, 0);
    }

    private static void namesAndNumbers() {
        fault("man a 1 1 1;ear a 1 1;", 3, 16);
        fault("wall a up 1 1 1 1;bell a 1 1 1;", 3, 23);
        fault("ear ab 1 1;man a 1 1 1;man ab 1 1 1;ear a 1 1;", 3, 27);
        fault("man a 1 1 0;ear a 1 1;", 5, 10);
        fault("man a 1 1 1;ear a 1 100;", 3, 16);
        fault("man a 99 1 1;ear a 1 1;", 3, 17);
        fault("man m 99 1 1;", 6, 6);
        fault("man m 1 99 1;", 6, 8);
        fault("ear m 99 1;", 6, 6);
        fault("ear m 1 99;", 6, 8);
        fault("bell m 99 1 1;", 6, 7);
        fault("bell m 1 99 1;", 6, 9);
        fine("ear ab 1 1;ear ba 1 1;ear a 1 1;ear b 1 1;");
        fault("wall w up 100 0 9 0;", 5, 10);
        fault("wall w flat 0 100 100 0;", 5, 14);
        fault("wall w flat 0 9 100 0;", 5, 16);
        fault("wall w up 0 6 5 100;", 5, 14);
        fault("wall w up 6 5 5 100;", 5, 16);
        fine("wall w up 6 5 5 99;");
        fault("man m 100 0 1;", 5, 6);
        fault("man m 0 100 1;", 5, 8);
        fault("man m 0 0 0;", 5, 10);
        fault("man m 0 0 100;", 5, 10);
        fine("man m 0 0 99;");
        fault("ear m 100 0;", 5, 6);
        fault("ear m 0 100;", 5, 8);
        fault("bell m 100 0 0;", 5, 7);
        fault("bell m 0 100 0;", 5, 9);
        fine("bell m 0 0 9999;");
        fault("map 0 1;", 5, 4);
        fault("map 41 1;", 5, 4);
        fault("map 1 0;", 5, 6);
        fault("map 1 41;map 1 1;", 5, 6);
        fault("pace 0;pace 1;", 5, 5);
        fault("pace 100;", 5, 5);
        fault("fall 0;", 5, 5);
        fault("fall 100;", 5, 5);
        fault("pace 0; ;", 1, 8);
        fault("map 1 1;man m 99 99 1;pace 0;", 5, 27);
    }

    private static void outs() {
        fine("man m 19 19 1;ear e 19 19;bell b 19 19 1;");
        fault("man m 20 19 1;", 6, 6);
        fault("man m 19 20 1;", 6, 9);
        fault("ear m 20 19;", 6, 6);
        fault("ear m 19 20;", 6, 9);
        fault("bell m 20 20 1;", 6, 7);
        fault("bell m 19 20 1;", 6, 10);
        fine("man m 29 1 1;map 30 2;");
        fine("map 30 31;man m 29 30 1;");
        fault("map 6 5;man m 6 1 1;", 6, 14);
        fault("map 6 5;man m 5 5 1;", 6, 16);
        fault("man m 30 1 1;map 30 2;", 6, 6);
        fault("man m 29 2 1;map 30 2;", 6, 9);
        fault("map 30 30;man m 9 9 99;map 9 30;", 6, 16);
        fine("map 2 2;bell m 9 9 99;map 10 10;wall w flat 99 99 99 0;");
        fine("map 1 1;man m 0 0 99;");
    }

    private static void reading() {
        promise = 4;
        EchoValley e = valley("wall a up 9 0 9 0; man m 1 1 50; ear e 1 1; bell b 0 0 0; map 12 13; pace 7; fall 8; gap 9;");
        e.tell(0, 0, 1, 5);
        e.shout(0, 0, 1, 5);
        e.hold(2);
        e.stands(0, false);
        put(e, "gap 1; ! ");
        due("count 11", e.count(11), 9);
        due("read", e.read(), 1);
        due("place", e.place(), 7);
        int[] still = {1, 1, 1, 1, 12, 13, 7, 8, 9, 1, 1, 0, 1};
        for (int what = 0; what < still.length; what++) {
            due("count behind a FAULT " + what, e.count(what), still[what]);
        }
        due("there", e.wall(0, 5), 0);
        put(e, "man m 1 20 50;");
        due("read", e.read(), 6);
        due("count 1", e.count(1), 1);
        put(e, "gap 5;gap 6;fall 3;fall 2;pace 4;pace 3;map 3 3;map 4 5;");
        due("read", e.read(), 0);
        int[] then = {0, 0, 0, 0, 4, 5, 3, 2, 6, 0, 0, 0, 0};
        for (int what = 0; what < then.length; what++) {
            due("count of the next text " + what, e.count(what), then[what]);
        }
        due("restore", e.restore(2), false);

        // Each text is read by itself: as many walls as can be, and once more; then no wall at all.
        String most = many("wall ? up 9 0 9 0;", 8) + many("man m? 1 1 1;", 6) + many("ear e? 1 1;", 6) + many("bell b? 1 1 1;", 6);
        for (int i = 0; i < 3; i++) {
            put(e, most);
            due("read once more", e.read(), 0);
            due("walls", e.count(0), 8);
        }
        put(e, "map 4 5;gap 6;");
        due("read", e.read(), 0);
        due("no wall", e.count(0), 0);
        due("no wall", e.returns(1, 1, 1, 1, 9), 1);
        due("no bell", e.first(1, 1, 0), -2);

        promise = 5;
        due("place", e.place(), -1);
        put(e, "gap");
        e.read();
        due("place", e.place(), 3);
        put(e, "!");
        due("place of the latest read", e.place(), 3);
        e.read();
        due("place", e.place(), 0);
        due("read of an empty tape", e.read(), 0);
        due("place", e.place(), -1);
        due("wide", e.count(4), 20);
        due("gap", e.count(8), 100);
    }

    // ---- promises 6 to 9

    private static void walls() {
        promise = 6;
        EchoValley e = valley("wall a up 9 1 8 4; wall b flat 11 0 99 98;");
        int[][] want = {{0, 9, 1, 8, 4, 1}, {1, 11, 0, 99, 98, 1}};
        for (int i = 0; i < 2; i++) {
            for (int what = 0; what < 6; what++) {
                due("wall " + i + " " + what, e.wall(i, what), want[i][what]);
            }
        }
        due("no such wall", e.wall(2, 0), -1);
        due("no such what", e.wall(1, 6), -1);
        due("no such what", e.wall(1, 7), -1);
        for (int n : ODD) {
            due("wall", e.wall(n, 0), -1);
            due("wall", e.wall(0, n), -1);
        }

        promise = 7;
        due("returns", e.returns(0, 5, 0, 5, 99), 2);
        due("stands", e.stands(0, false), true);
        due("there", e.wall(0, 5), 0);
        due("where", e.wall(0, 1), 9);
        due("the other one", e.wall(1, 5), 1);
        due("returns", e.returns(0, 5, 0, 5, 99), 1);
        due("stands", e.stands(0, false), true);
        due("stands", e.stands(0, true), true);
        due("stands", e.stands(0, true), true);
        due("there", e.wall(0, 5), 1);
        due("returns", e.returns(0, 5, 0, 5, 99), 2);
        due("stands", e.stands(2, true), false);
        due("stands", e.stands(8, true), false);
        for (int n : ODD) {
            due("stands", e.stands(n, true), false);
        }

        promise = 8;
        due("move", e.move(0, 99), true);
        due("where", e.wall(0, 1), 99);
        due("move", e.move(0, 0), true);
        due("where", e.wall(0, 1), 0);
        due("move", e.move(0, 100), false);
        due("move", e.move(0, -1), false);
        due("move", e.move(2, 1), false);
        due("move", e.move(-1, 1), false);
        due("where", e.wall(0, 1), 0);
        e.stands(0, false);
        due("move what is taken away", e.move(0, 3), true);
        due("where", e.wall(0, 1), 3);
        due("there", e.wall(0, 5), 0);
        due("to", e.wall(0, 3), 8);

        promise = 9;
        due("pace", e.pace(99), 10);
        due("pace", e.pace(1), 99);
        due("pace", e.pace(0), -1);
        due("pace", e.pace(100), -1);
        for (int n : ODD) {
            due("pace", e.pace(n), -1);
        }
        due("pace now", e.count(6), 1);
        due("time", e.at(0, 0, 0, 3, 9, 0, 1), 3000);
    }

    // ---- promises 10 and 11

    private static void at(EchoValley e, int[] places, int loud, int[][] want) {
        due("returns", e.returns(places[0], places[1], places[2], places[3], loud), want.length);
        for (int i = 0; i < want.length; i++) {
            for (int what = 0; what < 4; what++) {
                int got = e.at(places[0], places[1], places[2], places[3], loud, i, what);
                due("at " + Arrays.toString(places) + " " + i + " " + what, got, want[i][what]);
            }
        }
        due("at behind the last", e.at(places[0], places[1], places[2], places[3], loud, want.length, 0), -1);
    }

    private static void returns() {
        promise = 10;
        EchoValley e = valley("wall a up 10 0 20 3; map 20 15;");
        // (16, 9) is (4, 9) laid over: 12 far and 4 high, 12.649 long, 1264.9 of TIME.
        at(e, new int[] {4, 5, 4, 9}, 30, new int[][] {{0, 400, 30, 4}, {10, 1264, 26, 12}});
        due("loud 4", e.returns(4, 5, 4, 9, 4), 1);
        due("loud 5", e.returns(4, 5, 4, 9, 5), 2);
        due("loud 1", e.returns(4, 5, 4, 9, 1), 1);
        due("far", e.returns(0, 0, 0, 10, 1), 0);
        due("not so far", e.returns(0, 0, 0, 9, 1), 1);
        due("edge", e.returns(19, 14, 19, 14, 1), 1);
        int[][] odd = {{20, 0, 0, 0, 9}, {0, 15, 0, 0, 9}, {0, 0, 20, 0, 9}, {0, 0, 0, 15, 9}, {-1, 0, 0, 0, 9},
            {0, -1, 0, 0, 9}, {0, 0, -1, 0, 9}, {0, 0, 0, -1, 9}, {0, 0, 0, 0, 0}, {0, 0, 0, 0, 100}, {0, 0, 0, 0, -1}};
        for (int[] o : odd) {
            due("returns " + Arrays.toString(o), e.returns(o[0], o[1], o[2], o[3], o[4]), -1);
            due("at " + Arrays.toString(o), e.at(o[0], o[1], o[2], o[3], o[4], 0, 0), -1);
        }
        for (int n : ODD) {
            due("returns", e.returns(n, n, n, n, 9), -1);
            due("returns", e.returns(0, 0, 0, 0, n), -1);
        }

        promise = 11;
        due("at what 4", e.at(4, 5, 4, 9, 30, 0, 4), -1);
        for (int n : ODD) {
            due("at", e.at(4, 5, 4, 9, 30, n, 0), -1);
            due("at", e.at(4, 5, 4, 9, 30, 0, n), -1);
        }
        // TIME is of the true length: of 1.414 by 3 it is 471, not 333.
        e.pace(3);
        at(e, new int[] {0, 0, 1, 1}, 9, new int[][] {{0, 471, 9, 1}, {10, 6342, 5, 19}});
        // LOUD: 9.9 is 9 long, by 4 that is 2.
        e = valley("fall 4;");
        at(e, new int[] {0, 0, 7, 7}, 3, new int[][] {{0, 989, 1, 9}});
        due("too low", e.returns(0, 0, 7, 7, 2), 0);
        e = valley("fall 1; pace 99;");
        at(e, new int[] {0, 0, 0, 0}, 1, new int[][] {{0, 0, 1, 0}});
        at(e, new int[] {0, 0, 3, 0}, 4, new int[][] {{0, 30, 1, 3}});
    }

    private static void order() {
        promise = 11;
        // (6, 5) between walls 2 far on both sides: alike in TIME, the softer one behind.
        EchoValley e = valley("wall a up 4 0 9 5; wall b up 8 0 9 0;");
        at(e, new int[] {6, 5, 6, 5}, 30, new int[][] {
            {0, 0, 30, 0}, {11, 400, 30, 4}, {10, 400, 25, 4}, {101, 800, 25, 8}, {110, 800, 25, 8}});
        // 3.2 and 3 long by 99: the TIME is 32 and 30; of alike LOUD the TIME goes first.
        e = valley("wall a up 4 0 9 0; wall b up 8 0 9 0;");
        at(e, new int[] {6, 5, 6, 5}, 30, new int[][] {
            {0, 0, 30, 0}, {10, 400, 30, 4}, {11, 400, 30, 4}, {101, 800, 30, 8}, {110, 800, 30, 8}});
        at(e, new int[] {5, 5, 5, 5}, 30, new int[][] {
            {0, 0, 30, 0}, {10, 200, 30, 2}, {11, 600, 30, 6}, {101, 800, 30, 8}, {110, 800, 30, 8}});
        // By 1 and then 3 off the walls: from 5 to 7 by two walls it is 6 or 10 long.
        at(e, new int[] {5, 5, 7, 5}, 30, new int[][] {
            {0, 200, 30, 2}, {10, 400, 30, 4}, {11, 400, 30, 4}, {101, 600, 30, 6}, {110, 1000, 29, 10}});
        // Straight is blocked by c: what is told later may come first.
        e = valley("wall a up 0 0 19 0; wall b up 9 0 19 0; wall c flat 5 7 7 0;");
        at(e, new int[] {7, 4, 7, 6}, 30, new int[][] {{11, 447, 30, 4}, {10, 1414, 29, 14}, {101, 1811, 29, 18}, {110, 1811, 29, 18}});
        // Walls on one line: each gives its own way, none goes from one to the other.
        e = valley("wall a up 4 0 9 0; wall b up 4 3 20 1;");
        at(e, new int[] {6, 5, 6, 5}, 30, new int[][] {{0, 0, 30, 0}, {10, 400, 30, 4}, {11, 400, 29, 4}});
        at(e, new int[] {6, 2, 6, 2}, 30, new int[][] {{0, 0, 30, 0}, {10, 400, 30, 4}});
        due("through it", e.returns(6, 5, 2, 5, 30), 0);
    }

    // ---- which ways there are

    private static void ways() {
        promise = 10;
        EchoValley e = valley("wall a up 10 7 7 0;");
        due("the wall's one place", e.returns(4, 5, 4, 9, 30), 2);
        due("beside it", e.returns(4, 5, 4, 8, 30), 1);
        e = valley("wall a up 10 7 20 0;");
        due("its lower end", e.returns(4, 5, 4, 9, 30), 2);
        due("below it", e.returns(4, 5, 4, 8, 30), 1);
        e = valley("wall a up 10 0 7 0;");
        due("its upper end", e.returns(4, 5, 4, 9, 30), 2);
        due("above it", e.returns(4, 5, 4, 10, 30), 1);
        due("on its line", e.returns(10, 5, 4, 5, 30), 1);
        due("to its line", e.returns(4, 5, 10, 5, 30), 1);
        due("along its line", e.returns(10, 5, 10, 9, 30), 1);
        due("behind it, past its end", e.returns(4, 9, 16, 9, 30), 1);
        due("behind it", e.returns(4, 5, 16, 5, 30), 0);
        due("from behind", e.returns(16, 5, 16, 5, 30), 2);
        e = valley("wall a flat 10 7 7 0;");
        due("flat: the wall's one place", e.returns(5, 4, 9, 4, 30), 2);
        due("flat: beside it", e.returns(5, 4, 8, 4, 30), 1);

        // A corner: from (3, 4) itself the way by both goes through (0, 0), where nothing is crossed.
        e = valley("wall a up 0 0 19 2; wall b flat 0 0 19 1;");
        at(e, new int[] {3, 4, 3, 4}, 30, new int[][] {{0, 0, 30, 0}, {10, 600, 28, 6}, {11, 800, 29, 8}});
        at(e, new int[] {3, 4, 5, 2}, 30, new int[][] {
            {0, 282, 30, 2}, {11, 632, 29, 6}, {10, 824, 28, 8}, {101, 1000, 26, 10}});
        at(e, new int[] {5, 2, 3, 4}, 30, new int[][] {
            {0, 282, 30, 2}, {11, 632, 29, 6}, {10, 824, 28, 8}, {110, 1000, 26, 10}});
        // The first one is touched at (0, 1.75), the second one at (2.333, 0).
        e = valley("wall a up 0 2 19 0; wall b flat 0 0 19 0;");
        due("first one too short", e.touch(3, 4, 5, 2, 101, 0, true), -2);
        e = valley("wall a up 0 1 2 0; wall b flat 0 3 19 0;");
        due("second one too short", e.touch(3, 4, 5, 2, 101, 0, true), -2);
        e = valley("wall a up 0 0 2 0; wall b flat 0 0 3 0;");
        at(e, new int[] {3, 4, 5, 2}, 30, new int[][] {{0, 282, 30, 2}, {101, 1000, 29, 10}});
    }

    private static void blocking() {
        promise = 10;
        // The way by a goes over (10, 7); b crosses both its pieces, c none of them.
        EchoValley e = valley("wall a up 10 0 20 0; wall b up 7 6 8 0;");
        due("first piece", e.touch(4, 5, 4, 9, 10, 0, true), -2);
        e.stands(1, false);
        due("blocker away", e.touch(4, 5, 4, 9, 10, 0, true), 7000);
        e = valley("wall a up 10 0 20 0; wall b up 7 0 6 0;");
        due("crossed at its end", e.touch(4, 5, 4, 9, 10, 0, true), -2);
        e = valley("wall a up 10 0 20 0; wall b up 7 0 5 0;");
        due("not reached", e.touch(4, 5, 4, 9, 10, 0, true), 7000);
        e = valley("wall a up 10 0 20 0; wall b up 7 8 9 0;");
        due("second piece", e.touch(4, 5, 4, 9, 10, 0, true), -2);
        // A flat wall through the touched place: straight is blocked, the way by a is not.
        e = valley("wall a up 10 0 20 0; wall b flat 7 0 20 0;");
        due("at the pieces' ends", e.touch(4, 5, 4, 9, 10, 0, true), 7000);
        due("straight", e.at(4, 5, 4, 9, 30, 0, 0), 10);
        due("one is on it", e.at(4, 7, 4, 9, 30, 0, 0), 0);
        due("both are on it", e.at(4, 7, 9, 7, 30, 0, 0), 0);
        // Off a at (10, 6.5), then off b at (12, 7); the other way round there is none.
        due("off the far side", e.returns(16, 5, 16, 6, 30), 4);
        due("off both", e.touch(16, 5, 16, 6, 101, 1, false), 12000);
        // Parallel walls: the way by both has a piece from one to the other.
        e = valley("wall a up 0 0 20 0; wall b up 12 0 20 0; wall c up 6 9 9 0;");
        due("both", e.touch(3, 9, 3, 9, 101, 0, false), -2);
        due("the near one", e.touch(3, 9, 3, 9, 10, 0, false), 0);
        due("the far one", e.touch(3, 9, 3, 9, 11, 0, false), -2);
        due("by its side", e.touch(3, 8, 3, 8, 101, 1, false), 12000);
        // From (2, 4) over a at (0, 6) and b at (12, 18): c crosses the piece between alone.
        e = valley("wall a up 0 0 40 0; wall b up 12 0 40 0; wall c flat 12 6 6 0; map 40 40;");
        due("piece between", e.touch(2, 4, 2, 28, 101, 0, false), -2);
        e.stands(2, false);
        due("piece between", e.touch(2, 4, 2, 28, 101, 0, true), 6000);
        due("piece between", e.touch(2, 4, 2, 28, 101, 1, true), 18000);
        e = valley("wall a up 0 0 40 0; wall b up 12 0 40 0; wall c up 1 5 5 0; map 40 40;");
        due("piece ahead", e.touch(2, 4, 2, 28, 101, 0, false), -2);
        e = valley("wall a up 0 0 40 0; wall b up 12 0 40 0; wall c up 7 23 23 0; map 40 40;");
        due("piece behind", e.touch(2, 4, 2, 28, 101, 0, false), -2);
        // The last piece crosses the first wall again: none.
        e = valley("wall a up 6 0 9 0; wall b flat 0 0 20 0;");
        due("no way through the first one", e.touch(4, 3, 9, 3, 101, 0, false), -2);
    }

    // ---- promise 12

    private static void touches() {
        promise = 11;
        // 1000 times the root of 25 * 25 + 1 is 25019.99.
        EchoValley e = valley("map 40 40; pace 1;");
        due("true TIME", e.at(0, 0, 25, 1, 99, 0, 1), 25019);
        due("true TIME", e.at(39, 0, 0, 32, 99, 0, 1), 50447);

        promise = 12;
        e = valley("map 12 8; wall a up 99 0 0 0; wall b up 11 0 20 0; wall c up 98 0 0 0; wall d flat 99 0 0 0; wall f up 97 0 0 0;"
            + "wall g up 96 0 0 0; wall h up 95 0 0 0; wall i up 0 0 20 0;");
        // From (4, 2) it is 7 to b, 11 to i and 7 to (7, 6).
        due("the eighth wall", e.touch(4, 2, 7, 6, 117, 0, false), 11000);
        due("the eighth wall", e.touch(4, 2, 7, 6, 117, 0, true), 3120);
        due("the eighth wall", e.touch(4, 2, 7, 6, 171, 1, false), 11000);
        due("the eighth wall", e.touch(4, 2, 7, 6, 17, 0, true), 3454);
        due("the ninth", e.touch(4, 2, 7, 6, 118, 0, true), -1);
        due("the ninth", e.touch(4, 2, 7, 6, 18, 0, true), -1);
        e = valley("wall a up 0 0 19 0; wall b flat 0 0 19 0; map 20 18;");
        due("first x", e.touch(3, 4, 5, 2, 101, 0, false), 0);
        due("first y", e.touch(3, 4, 5, 2, 101, 0, true), 1750);
        due("second x", e.touch(3, 4, 5, 2, 101, 1, false), 2333);
        due("second y", e.touch(3, 4, 5, 2, 101, 1, true), 0);
        due("the other way round", e.touch(3, 4, 5, 2, 110, 0, true), -2);
        due("by one", e.touch(3, 4, 5, 2, 10, 0, true), 3250);
        due("by one", e.touch(3, 4, 5, 2, 11, 0, false), 4333);
        due("by one", e.touch(3, 4, 5, 2, 11, 0, true), 0);
        e.stands(1, false);
        due("taken away", e.touch(3, 4, 5, 2, 11, 0, false), -2);
        due("second taken away", e.touch(3, 4, 5, 2, 101, 0, false), -2);
        e.stands(1, true);
        e.stands(0, false);
        due("first taken away", e.touch(3, 4, 5, 2, 101, 0, false), -2);
        e.stands(0, true);
        int[] numbers = {0, 1, 9, 12, 18, 20, 99, 100, 111, 102, 112, 120, 121, 200, 1000, 1001, -10, -90};
        for (int n : numbers) {
            due("touch " + n, e.touch(3, 4, 5, 2, n, 0, true), -1);
            due("touch " + n, e.touch(3, 4, 5, 2, n, 1, true), -1);
        }
        for (int n : ODD) {
            due("touch", e.touch(3, 4, 5, 2, n, 0, true), -1);
            due("touch", e.touch(3, 4, 5, 2, 101, n, true), -1);
            due("touch", e.touch(n, 4, 5, 2, 10, 0, true), -1);
            due("touch", e.touch(3, n, 5, 2, 10, 0, true), -1);
            due("touch", e.touch(3, 4, n, 2, 10, 0, true), -1);
            due("touch", e.touch(3, 4, 5, n, 10, 0, true), -1);
        }
        due("k 1 of one wall", e.touch(3, 4, 5, 2, 10, 1, true), -1);
        due("k 2", e.touch(3, 4, 5, 2, 101, 2, true), -1);
        due("x 20", e.touch(20, 4, 5, 2, 10, 0, true), -1);
        due("v 18", e.touch(3, 4, 5, 18, 10, 0, true), -1);
        // It need not come: by a soft wall, far off.
        e = valley("wall a up 99 0 99 99; fall 1; map 40 40;");
        due("far", e.touch(0, 0, 0, 39, 10, 0, true), 19500);
        due("far", e.touch(0, 0, 0, 39, 10, 0, false), 99000);
        due("far", e.returns(0, 0, 0, 39, 99), 1);
    }

    // ---- promises 13 and 14

    private static void heardAndDrowned(String text, int heard, int drowned) {
        EchoValley e = valley(text);
        promise = 13;
        due("heard: " + text, e.heard(0, 0), heard);
        promise = 14;
        due("drowned: " + text, e.drowned(0, 0), drowned);
    }

    private static void heardAndDrowned() {
        // RETURNS at (6, 5): 0 of 30; 400 of 30 and of 25; 800 of 25, two.
        String text = "wall a up 4 0 9 5; wall b up 8 0 9 0; man m 6 5 30; ear e 6 5;";
        heardAndDrowned(text + "gap 0;", 5, 0);
        heardAndDrowned(text + "gap 1;", 3, 1);
        heardAndDrowned(text + "gap 400;", 3, 1);
        heardAndDrowned(text + "gap 401;", 1, 3);
        heardAndDrowned(text + "gap 800;", 1, 3);
        heardAndDrowned(text + "gap 801;", 1, 3);
        // By 1 all that is longer is lower: 30, 26, 26, 22, 22.
        text = "wall a up 4 0 9 0; wall b up 8 0 9 0; man m 6 5 30; ear e 6 5; fall 1;";
        heardAndDrowned(text + "gap 0;", 5, 0);
        heardAndDrowned(text + "gap 1;", 3, 0);
        heardAndDrowned(text + "gap 400;", 3, 0);
        heardAndDrowned(text + "gap 401;", 1, 4);
        // One that is drowned drowns too: 0 of 30, 200 of 28, 400 and 500 of less.
        text = "wall a up 5 0 9 0; man m 6 5 30; ear e 6 5; wall b up 8 0 9 0; fall 1;";
        heardAndDrowned(text + "gap 201;", 1, 4);
        // A later one that is louder is not drowned and does not drown what is ahead.
        text = "wall a up 5 0 9 9; man m 6 5 30; ear e 6 5; wall b up 8 0 9 0;";
        heardAndDrowned(text + "gap 201;", 2, 3);
        heardAndDrowned(text + "gap 200;", 4, 0);

        due("nothing asked ahead", valley(text + "gap 201;").drowned(0, 0), 3);
        promise = 13;
        EchoValley e = valley("man m 6 5 3; man n 0 0 9; ear e 6 6; ear f 19 19; wall a flat 9 0 19 0; gap 3;");
        due("heard", e.heard(0, 0), 2);
        due("heard from the far side", e.heard(0, 1), 0);
        due("heard", e.heard(1, 0), 2);
        due("heard", e.heard(2, 0), -1);
        due("heard", e.heard(0, 2), -1);
        promise = 14;
        due("drowned", e.drowned(2, 0), -1);
        due("drowned", e.drowned(0, 2), -1);
        for (int n : ODD) {
            due("heard", e.heard(n, 0), -1);
            due("heard", e.heard(0, n), -1);
            due("drowned", e.drowned(n, 0), -1);
            due("drowned", e.drowned(0, n), -1);
        }
    }

    // ---- promises 15 and 16

    private static void beatsAndStand() {
        promise = 15;
        EchoValley e = valley("wall a up 6 0 4 0; map 8 6; fall 2;");
        due("800 by 1", e.beats(2, 4, 9, 1), 800);
        due("800 by 400", e.beats(2, 4, 9, 400), 2);
        due("800 by 401", e.beats(2, 4, 9, 401), 1);
        due("800 by 801", e.beats(2, 4, 9, 801), 0);
        due("800 by 9999", e.beats(2, 4, 9, 9999), 0);
        due("past the wall's end", e.beats(2, 5, 9, 1), -2);
        due("on the wall", e.beats(6, 3, 9, 1), -2);
        due("from behind", e.beats(7, 3, 9, 1), 200);
        due("too low", e.beats(2, 4, 4, 1), -2);
        due("not too low", e.beats(2, 4, 5, 1), 800);
        int[][] odd = {{8, 0, 9, 1}, {0, 6, 9, 1}, {-1, 0, 9, 1}, {0, -1, 9, 1}, {0, 0, 0, 1}, {0, 0, 100, 1},
            {0, 0, 9, 0}, {0, 0, 9, 10000}, {0, 0, 9, -1}, {6, 6, 1, 1}};
        for (int[] o : odd) {
            due("beats " + Arrays.toString(o), e.beats(o[0], o[1], o[2], o[3]), -1);
        }

        promise = 16;
        // 1200, 1000, 800, 600, 400, 200, none, 200 in each of five rows.
        due("stand 0", e.stand(0, 99, 9999, 0), 35);
        due("stand 0", e.stand(0, 99, 9999, 1), 0);
        due("stand 3", e.stand(3, 99, 200, 0), 20);
        due("stand 6", e.stand(6, 99, 200, 0), 5);
        due("stand 6", e.stand(6, 99, 200, 1), 0);
        due("stand 7", e.stand(7, 99, 200, 0), 0);
        due("stand 7", e.stand(7, 99, 200, 1), -2);
        due("stand 3, low", e.stand(3, 5, 200, 1), 2);
        due("stand 3, low", e.stand(3, 5, 200, 0), 10);
        e = valley("wall a flat 4 1 2 0; map 8 6;");
        due("first by y", e.stand(1, 99, 200, 1), 1);
        due("first by y", e.stand(4, 99, 200, 0), 2);
        e.stands(0, false);
        due("stand 0", e.stand(0, 99, 1, 0), 0);
        due("stand 0", e.stand(0, 99, 1, 1), -2);
        int[][] no = {{-1, 9, 1, 0}, {0, 0, 1, 0}, {0, 100, 1, 0}, {0, 9, 0, 0}, {0, 9, 10000, 0}, {0, 9, 1, 2}, {0, 9, 1, -1}};
        for (int[] o : no) {
            due("stand " + Arrays.toString(o), e.stand(o[0], o[1], o[2], o[3]), -1);
        }
        due("stand of most", e.stand(Integer.MAX_VALUE, 99, 1, 0), 0);
        // A wall that is longer than the MAP; a MAP as great as can be.
        e = valley("wall a up 6 0 19 0; map 8 6;");
        due("longer", e.stand(0, 99, 1, 0), 42);
        e = valley("wall a up 45 0 45 0; map 40 40;");
        due("all", e.stand(0, 99, 1, 0), 1600);
        due("all", e.stand(50, 99, 200, 1), -2);
        // Along a flat wall, told last, the first place by y is not that by x.
        e = valley("wall a up 3 2 5 0; map 4 6; fall 1;");
        due("first by y, then x", e.stand(1, 9, 200, 1), code(0, 2));
        due("first by y, then x", e.stand(1, 3, 200, 1), code(2, 2));
    }

    // ---- promises 17 and 18

    private static void deafAndLouder() {
        promise = 17;
        EchoValley e = valley("man m 0 0 2; man n 2 0 99; map 5 3; fall 2; wall a up 3 0 9 0;");
        // Of loudness 2 by 2: what is less than 4 long; all behind the wall is deaf.
        due("deaf", e.deaf(0, 0), 3);
        due("deaf", e.deaf(0, 1), 4);
        due("deaf", e.deaf(1, 0), 3);
        e.stands(0, false);
        due("deaf", e.deaf(0, 0), 3);
        due("deaf", e.deaf(1, 0), 0);
        due("deaf", e.deaf(1, 1), -2);
        due("deaf", e.deaf(2, 0), -1);
        due("deaf", e.deaf(0, 2), -1);
        for (int n : ODD) {
            due("deaf", e.deaf(n, 0), -1);
            due("deaf", e.deaf(0, n), -1);
        }
        // What comes off a wall comes too: round the end of b.
        e = valley("man m 0 0 99; map 5 1; wall b up 2 0 0 0; wall a flat 3 0 4 0;");
        due("deaf", e.deaf(0, 0), 0);
        e.stands(1, false);
        due("deaf", e.deaf(0, 0), 2);
        due("deaf", e.deaf(0, 1), 3);
        e = valley("man m 0 0 99; map 1 4; wall b flat 1 0 0 0;");
        due("deaf", e.deaf(0, 1), 200);

        promise = 18;
        e = valley("man m 0 0 9; map 5 3; fall 1; wall a up 5 0 9 0;");
        due("louder 9", e.louder(0, 9), 1);
        // (1, 0), (0, 1), (1, 1) are 1 long.
        due("louder 8", e.louder(0, 8), 4);
        due("louder 1", e.louder(0, 1), 15);
        due("louder 10", e.louder(0, 10), 0);
        for (int k = 10; k > 0; k = k < 1 << 29 ? 2 * k : k + (1 << 29)) {
            due("louder " + k, e.louder(0, k), 0);
        }
        due("louder of most", e.louder(0, Integer.MAX_VALUE), 0);
        due("louder of most", valley("man m 0 0 9; fall 1; map 40 40;").louder(0, Integer.MAX_VALUE), 0);
        due("louder 0", e.louder(0, 0), -1);
        due("louder -1", e.louder(0, -1), -1);
        due("louder", e.louder(1, 1), -1);
        due("louder", e.louder(-1, 1), -1);
        // A wall between: behind it only what comes off the flat one is loud.
        e = valley("man m 0 0 9; map 5 1; fall 1; wall b up 2 0 0 0; wall a flat 3 0 4 0;");
        due("louder 4", e.louder(0, 4), 3);
        due("louder 3", e.louder(0, 3), 4);
        due("louder 2", e.louder(0, 2), 5);
    }

    // ---- promise 19

    private static void canon() {
        promise = 19;
        // At (5, 5): 200 off a, 600 off b, 800 off both.
        EchoValley e = valley("wall a up 4 0 9 0; wall b up 8 0 9 0; gap 50; map 20 18;");
        due("200, 400, 600, 800, 1000", e.canon(5, 5, 30, 200, 5), 3);
        due("200, 400, 600", e.canon(5, 5, 30, 200, 3), 2);
        due("151", e.canon(5, 5, 30, 151, 1), 1);
        due("150", e.canon(5, 5, 30, 150, 1), 0);
        due("201", e.canon(5, 5, 30, 201, 1), 0);
        due("151 .. 755: 151, 755", e.canon(5, 5, 30, 151, 5), 2);
        due("straight is none", e.canon(5, 5, 30, 1, 1), 0);
        due("99", e.canon(5, 5, 30, 8, 99), 20);
        due("low", e.canon(5, 5, 1, 200, 5), 3);
        due("199", e.canon(5, 5, 30, 199, 1), 1);
        e = valley("wall a up 4 0 9 0; wall b up 8 0 9 0; gap 1; fall 1;");
        due("199", e.canon(5, 5, 30, 199, 1), 0);
        due("200, 400, 600", e.canon(5, 5, 30, 200, 3), 2);
        due("low", e.canon(5, 5, 3, 200, 3), 1);
        e = valley("wall a up 4 0 9 0; wall b up 8 0 9 0; gap 0; map 20 18;");
        due("at it", e.canon(5, 5, 30, 200, 5), 3);
        due("ahead of it", e.canon(5, 5, 30, 199, 1), 0);
        due("one wall gives two", valley("wall a up 4 0 9 0; gap 9999;").canon(5, 5, 30, 100, 9), 2);
        int[][] odd = {{20, 0, 9, 1, 1}, {0, 18, 9, 1, 1}, {-1, 0, 9, 1, 1}, {0, -1, 9, 1, 1}, {0, 0, 0, 1, 1},
            {0, 0, 100, 1, 1}, {0, 0, 9, 0, 1}, {0, 0, 9, 10000, 1}, {0, 0, 9, 1, 0}, {0, 0, 9, 1, 100}};
        for (int[] o : odd) {
            due("canon " + Arrays.toString(o), e.canon(o[0], o[1], o[2], o[3], o[4]), -1);
        }
        due("longest", e.canon(5, 5, 30, 9999, 99), 0);
    }

    // ---- promises 20 and 21

    private static void put() {
        promise = 20;
        EchoValley e = valley("map 10 1; man m 2 0 99; ear e 2 0; wall a up 99 0 9 0; gap 500; fall 99; man o 0 0 1;");
        // The second RETURN is 500 behind from 3 places off on.
        due("where", e.put(0, 0, 0, 0), 5);
        due("how many", e.put(0, 0, 0, 1), 2);
        due("it stays", e.wall(0, 1), 99);
        due("it stays there", e.wall(0, 5), 1);
        e.stands(0, false);
        due("taken away", e.put(0, 0, 0, 0), 5);
        due("it stays away", e.wall(0, 5), 0);
        e = valley("map 40 1; man m 2 0 99; ear e 2 0; wall a up 2 0 9 0; gap 7400; fall 99;");
        due("the last place", e.put(0, 0, 0, 0), 39);
        e = valley("map 40 1; man m 2 0 99; ear e 2 0; wall a up 2 0 9 0; gap 7401; fall 99;");
        due("none is better", e.put(0, 0, 0, 0), 0);
        due("none is better", e.put(0, 0, 0, 1), 1);
        e = valley("map 9 1; man m 8 0 1; ear e 0 0; fall 1; wall a up 4 0 0 0;");
        due("none comes", e.put(0, 0, 0, 0), 0);
        due("none comes", e.put(0, 0, 0, 1), 0);
        int[][] odd = {{1, 0, 0, 0}, {0, 1, 0, 0}, {0, 0, 1, 0}, {0, 0, 0, 2}, {-1, 0, 0, 0}, {0, -1, 0, 0}, {0, 0, -1, 0}, {0, 0, 0, -1}};
        for (int[] o : odd) {
            due("put " + Arrays.toString(o), e.put(o[0], o[1], o[2], o[3]), -1);
        }
        // Behind a wall, on its line or ahead of it there is but one echo; beyond the man there are three.
        e = valley("map 20 2; man m 9 0 99; ear e 9 0; wall a up 3 0 9 0; wall b up 15 0 9 0; gap 100;");
        due("between is worse", e.put(1, 0, 0, 1), 4);
        due("between is worse", e.put(1, 0, 0, 0), 10);
    }

    private static void hush() {
        promise = 21;
        EchoValley e = valley("wall a up 0 0 19 0; wall b flat 0 0 19 0; man m 3 4 30; ear e 3 4; man l 3 4 1; fall 7;");
        due("both", e.hush(0, 0), 3);
        // Of loudness 1 by 7: 6 is not too long, 8 is.
        due("a alone", e.hush(1, 0), 1);
        e.stands(0, false);
        due("b alone", e.hush(0, 0), 2);
        due("none", e.hush(1, 0), 0);
        e.stands(1, false);
        due("none", e.hush(0, 0), 0);
        // c is behind a, and would be heard without a.
        e = valley("wall a up 5 0 19 0; wall c up 8 0 19 0; man m 3 4 30; ear e 3 4; ear f 2 4;");
        due("one behind the other", e.hush(0, 0), 3);
        due("there yet", e.wall(0, 5) + e.wall(1, 5), 2);
        // Only the way by both: either one away will do.
        e = valley("wall a up 0 0 2 0; wall b flat 0 0 3 0; man m 3 4 30; ear e 5 2;");
        due("least bits", e.hush(0, 0), 1);
        e = valley("wall c up 19 0 0 0; wall a up 0 0 2 0; wall b flat 0 0 3 0; man m 3 4 30; ear e 5 2;");
        due("least bits", e.hush(0, 0), 2);
        // Straight is no matter, and no straight one is none either.
        e = valley("wall a up 4 0 19 0; man m 3 4 30; ear e 5 4;");
        due("blocked", e.hush(0, 0), 0);
        due("hush", e.hush(1, 0), -1);
        due("hush", e.hush(0, 1), -1);
        for (int n : ODD) {
            due("hush", e.hush(n, 0), -1);
            due("hush", e.hush(0, n), -1);
        }
        String walls = "";
        for (int i = 0; i < 8; i++) {
            walls += "wall w" + (char) ('a' + i) + " up 9 " + i + " " + i + " 0;";
        }
        e = valley(walls + "man m 3 4 30; ear e 3 4; ear f 3 10;");
        due("the fifth", e.hush(0, 0), 16);
        due("the eighth", e.hush(0, 1), 128);
    }

    // ---- promise 22

    private static void whose() {
        promise = 22;
        EchoValley e = valley("man a 0 5 9; man b 10 5 9; man c 5 8 9; man d 5 10 1; ear e 5 5; fall 5; wall w flat 7 0 19 0;");
        due("at 500", e.whose(0, 500), 3);
        due("at 300", e.whose(0, 300), 0);
        due("at 499", e.whose(0, 499), 0);
        e.stands(0, false);
        due("at 300", e.whose(0, 300), 4);
        due("too low", e.whose(0, 500), 3);
        due("at none of these", e.whose(0, Integer.MAX_VALUE), 0);
        due("no such ear", e.whose(1, 500), -1);
        for (int n : ODD) {
            due("whose", e.whose(n, 500), -1);
        }
        // The first RETURN only; not straight if that is blocked.
        e = valley("man a 4 6 9; ear e 4 6; wall w up 9 0 9 0; man b 4 8 9; wall v flat 7 0 5 0;");
        due("straight first", e.whose(0, 0), 1);
        due("off a wall behind", e.whose(0, 1000), 0);
        due("blocked", e.whose(0, 200), 0);
        due("off w", e.whose(0, 1019), 2);
    }

    // ---- promises 23 and 24

    private static void alongAndNearest() {
        promise = 23;
        EchoValley e = valley("wall a up 6 0 3 0; map 8 6; fall 2;");
        due("0", e.along(2, 3, 1, -1, 99, 0), 800);
        due("1", e.along(2, 3, 1, -1, 99, 1), 600);
        due("3", e.along(2, 3, 1, -1, 99, 3), 200);
        due("4", e.along(2, 3, 1, -1, 99, 4), -3);
        due("stays", e.along(2, 3, 0, 0, 99, 99), 800);
        due("on it", e.along(2, 3, 2, 0, 99, 2), -2);
        due("from behind", e.along(2, 3, 5, 0, 99, 1), 200);
        due("far", e.along(2, 3, 40, -40, 99, 99), -3);
        due("low", e.along(2, 3, 1, 0, 4, 0), -2);
        due("low", e.along(2, 3, 1, 0, 4, 1), 600);
        due("past its end", e.along(2, 3, 0, 1, 99, 1), -2);
        int[][] odd = {{8, 0, 0, 0, 9, 0}, {0, 6, 0, 0, 9, 0}, {-1, 0, 0, 0, 9, 0}, {0, -1, 0, 0, 9, 0}, {0, 0, 41, 0, 9, 0},
            {0, 0, -41, 0, 9, 0}, {0, 0, 0, 41, 9, 0}, {0, 0, 0, -41, 9, 0}, {0, 0, 0, 0, 0, 0}, {0, 0, 0, 0, 100, 0},
            {0, 0, 0, 0, 9, -1}, {0, 0, 0, 0, 9, 100}, {0, 0, 40, 40, 9, 100}};
        for (int[] o : odd) {
            due("along " + Arrays.toString(o), e.along(o[0], o[1], o[2], o[3], o[4], o[5]), -1);
        }

        promise = 24;
        due("toward it", e.nearest(2, 3, 1, 0, 99, 3), 2);
        due("toward it", e.nearest(2, 3, 1, 0, 99, 4), 3);
        due("past it: the first of alike ones", e.nearest(2, 3, 1, 0, 99, 100), 3);
        due("away", e.nearest(2, 3, -1, 0, 99, 100), 0);
        due("stays", e.nearest(2, 3, 0, 0, 99, 100), 0);
        due("on it", e.nearest(6, 0, 0, 1, 99, 100), -2);
        due("from it", e.nearest(6, 0, 1, 0, 99, 100), 1);
        due("off the map and back is no way", e.nearest(2, 5, 0, 40, 99, 100), -2);
        due("past its end first", e.nearest(2, 5, 0, -1, 99, 100), 2);
        due("n 1", e.nearest(2, 5, 0, -1, 99, 1), -2);
        int[][] no = {{8, 0, 0, 0, 9, 1}, {0, 6, 0, 0, 9, 1}, {-1, 0, 0, 0, 9, 1}, {0, -1, 0, 0, 9, 1}, {0, 0, 41, 0, 9, 1},
            {0, 0, -41, 0, 9, 1}, {0, 0, 0, 41, 9, 1}, {0, 0, 0, -41, 9, 1}, {0, 0, 0, 0, 0, 1}, {0, 0, 0, 0, 100, 1},
            {0, 0, 0, 0, 9, 0}, {0, 0, 0, 0, 9, 101}, {0, 0, 0, 0, 9, -1}};
        for (int[] o : no) {
            due("nearest " + Arrays.toString(o), e.nearest(o[0], o[1], o[2], o[3], o[4], o[5]), -1);
        }
    }

    // ---- promises 25 and 26

    private static void bells() {
        promise = 25;
        EchoValley e = valley("bell a 0 0 300; bell b 6 0 0; bell c 6 3 0; map 9 4; fall 99;");
        due("when is told", e.first(0, 0, 0), 0);
        due("when is told", e.first(0, 0, 1), 300);
        due("of alike ones the least", e.first(3, 0, 0), 1);
        due("of alike ones the least", e.first(3, 0, 1), 300);
        due("at the bell", e.first(6, 0, 0), 1);
        due("at the bell", e.first(6, 0, 1), 0);
        due("nearer", e.first(6, 2, 0), 2);
        due("nearer", e.first(6, 2, 1), 100);
        due("true length", e.first(3, 3, 1), 300);
        due("true length", e.first(5, 1, 1), 141);
        EchoValley two = valley("bell a 0 0 0; bell b 6 0 0; bell c 0 0 0; map 9 4;");
        due("of alike ones the least", two.first(3, 0, 0), 0);
        due("of alike ones the least", two.first(3, 3, 0), 0);
        due("nearer", two.first(4, 3, 0), 1);
        due("first", e.first(9, 0, 0), -1);
        due("first", e.first(0, 4, 0), -1);
        due("first", e.first(-1, 0, 0), -1);
        due("first", e.first(0, -1, 0), -1);
        due("first", e.first(0, 0, 2), -1);
        due("first", e.first(0, 0, -1), -1);
        e = valley("map 9 4; wall a up 4 0 9 0; bell a1 0 0 0;".replace("a1", "z"));
        due("blocked", e.first(5, 0, 0), -2);
        due("blocked", e.first(5, 0, 1), -2);
        due("not", e.first(3, 0, 1), 300);
        // As loud as 99: by 1 it comes 98 far.
        e = valley("map 40 40; fall 1; bell z 0 0 7; wall a up 39 0 39 39; wall b flat 20 1 1 0;");
        due("loud", e.first(0, 39, 1), 3907);
        e = valley("map 40 40; fall 1; bell z 0 0 7; wall a up 30 0 39 30; wall b flat 20 0 0 0;");
        // Off a it is 71 long: 60 and 39; less 30 it does not come.
        due("too soft", e.first(0, 39, 1), -2);
        e = valley("map 40 40; fall 1; bell z 0 0 7; wall a up 30 0 39 27; wall b flat 20 0 0 0;");
        due("just", e.first(0, 39, 1), 7163);
        due("no bells", new EchoValley().first(0, 0, 0), -2);
        due("no bells, no such place", new EchoValley().first(20, 0, 0), -1);

        promise = 26;
        e = valley("bell a 0 0 100; bell b 6 0 0; map 8 1; fall 99; bell c 6 0 9999;");
        // a: 100 .. 800; b: 600 .. 0, 100: apart 500, 300, 100, 100, 300, 500, 700, 700.
        due("0", e.cross(0, 1, 0, 0), 0);
        due("0", e.cross(0, 1, 0, 1), -2);
        due("99", e.cross(0, 1, 99, 0), 0);
        due("100", e.cross(0, 1, 100, 0), 2);
        due("100", e.cross(0, 1, 100, 1), 2);
        due("300", e.cross(1, 0, 300, 0), 4);
        due("300", e.cross(1, 0, 300, 1), 1);
        due("700", e.cross(1, 0, 700, 0), 8);
        due("700", e.cross(0, 1, 700, 0), 8);
        due("most", e.cross(1, 2, Integer.MAX_VALUE, 0), 8);
        due("one and the same", e.cross(1, 1, 0, 0), -1);
        due("cross", e.cross(3, 1, 0, 0), -1);
        due("cross", e.cross(1, 3, 0, 0), -1);
        due("cross", e.cross(-1, 1, 0, 0), -1);
        due("cross", e.cross(1, -1, 0, 0), -1);
        due("cross", e.cross(0, 1, -1, 0), -1);
        due("cross", e.cross(0, 1, 0, 2), -1);
        due("cross", e.cross(0, 1, 0, -1), -1);
        e = valley("bell a 0 0 0; bell b 6 0 0; map 8 2; wall w up 3 0 0 0;");
        // Past the wall's end both come; on its line too.
        due("both", e.cross(0, 1, 0, 0), 2);
        due("both", e.cross(0, 1, 0, 1), 3);
        due("both", e.cross(0, 1, 9999, 0), 9);
    }

    // ---- promise 27

    private static void chirp() {
        promise = 27;
        EchoValley e = valley("pace 7;");
        // 2000 by 7 is 285, 4000 571, 6000 857, 8000 1142.
        due("1", e.chirp(1, 1, 1), 286);
        due("2", e.chirp(1, 1, 2), 286);
        due("3", e.chirp(1, 1, 3), 285);
        e.pace(1);
        due("most", e.chirp(999, 999, 99), 1998000);
        e.pace(99);
        due("least", e.chirp(1, 1, 1), 20);
        int[][] odd = {{0, 1, 1}, {1000, 1, 1}, {1, 0, 1}, {1, 1000, 1}, {1, 1, 0}, {1, 1, 100}, {-1, 1, 1}, {1, -1, 1}, {1, 1, -1}};
        for (int[] o : odd) {
            due("chirp " + Arrays.toString(o), e.chirp(o[0], o[1], o[2]), -1);
        }
        for (int n : ODD) {
            due("chirp", e.chirp(n, n, n), -1);
        }
    }

    // ---- promises 28 to 31

    private static void tellAndForget() {
        promise = 28;
        EchoValley e = valley("map 9 8;");
        due("tell", e.tell(8, 7, 99, -2), 0);
        due("tell", e.tell(0, 0, 1, 0), 1);
        due("tell", e.tell(0, 0, 1, Integer.MAX_VALUE), 2);
        int[][] odd = {{9, 0, 1, 0}, {0, 8, 1, 0}, {-1, 0, 1, 0}, {0, -1, 1, 0}, {0, 0, 0, 0}, {0, 0, 100, 0}, {0, 0, 1, -1}, {0, 0, 1, -3}};
        for (int[] o : odd) {
            due("tell " + Arrays.toString(o), e.tell(o[0], o[1], o[2], o[3]), -1);
        }
        due("told", e.count(9), 3);
        for (int i = 3; i < 20; i++) {
            due("tell", e.tell(0, 0, 9, 9), i);
        }
        due("a 21st", e.tell(0, 0, 9, 9), -1);
        due("told", e.count(9), 20);

        promise = 29;
        e.shout(0, 0, 9, 9);
        due("forget", e.forget(), 20);
        due("forget", e.forget(), 0);
        due("shouts", e.count(10), 0);
        due("tell", e.tell(0, 0, 9, 9), 0);
        due("forget", e.forget(), 1);
    }

    private static void list(EchoValley e, int k, int... want) {
        due("hidden " + k, e.hidden(k, -1), want.length);
        for (int i = 0; i < want.length; i++) {
            due("hidden " + k + " " + i, e.hidden(k, i), want[i]);
        }
        due("hidden behind the last", e.hidden(k, want.length), -1);
    }

    private static void hiddenAndNext() {
        promise = 30;
        EchoValley e = valley("map 10 10;");
        due("all", e.hidden(0, -1), 80);
        due("the 40th", e.hidden(0, 39), 39);
        due("the 41st", e.hidden(0, 40), 100);
        due("the 80th", e.hidden(0, 79), 139);
        due("the 81st", e.hidden(0, 80), -1);
        due("not told", e.hidden(1, -1), -1);
        due("k -1", e.hidden(-1, -1), -1);
        due("i -2", e.hidden(0, -2), -1);
        e.tell(5, 5, 99, 400);
        list(e, 1, 3, 7, 103, 107);
        due("nothing is left standing", e.returns(5, 5, 5, 5, 99), 1);
        due("nothing is left standing", e.beats(9, 0, 99, 1), -2);
        due("fewer are known", e.hidden(0, -1), 80);
        e.tell(4, 5, 99, 200);
        list(e, 2, 3);
        e.tell(5, 5, 99, 401);
        list(e, 3);
        e.forget();
        // Of loudness 1 by 10: nothing comes from 5 off on, nor from where one stands.
        e.tell(5, 5, 1, -2);
        due("nothing came", e.hidden(1, -1), 64);
        due("nothing came", e.hidden(1, 1), 5);
        due("nothing came", e.hidden(1, 2), 10);
        for (int n : ODD) {
            due("hidden", e.hidden(n, -1), -1);
            due("hidden", e.hidden(1, n), n == -1 ? 64 : -1);
        }
        // Flat at 0 is not up at 0.
        e = valley("map 10 10;");
        e.tell(2, 5, 99, 1000);
        list(e, 1, 7, 100, 110);
        // Eight walls are known, and stay as they are.
        e = valley(many("wall w? up 99 0 0 0;", 8) + "map 10 10;");
        e.tell(2, 5, 99, 1000);
        list(e, 1, 7, 100, 110);
        due("the eighth", e.wall(7, 1), 99);
        due("the eighth", e.wall(7, 5), 1);
        e.move(7, 9);
        due("the eighth", e.returns(2, 0, 2, 0, 99), 2);
        // A wall that is known: nearer ones are out, and farther ones and those on its line stay.
        e = valley("map 10 10; wall w up 8 0 99 0;");
        e.tell(5, 5, 99, 600);
        due("known", e.hidden(1, 0), 0);
        due("known", e.hidden(1, 3), 5);
        due("known", e.hidden(1, 4), 8);
        due("as they are now", e.stands(0, false), true);
        list(e, 1, 2, 8, 102, 108);
        e.pace(5);
        list(e, 1);
        e.forget();
        e.tell(5, 5, 99, 800);
        list(e, 1, 3, 7, 103, 107);

        promise = 31;
        e = valley("map 10 10;");
        e.tell(5, 5, 99, 400);
        // 3, 7, 103, 107: at (0, 0) they are alike in pairs, at (1, 0) none is like another.
        due("next", e.next(1, 99), code(1, 0));
        // Of loudness 1 at most one may be too far: 1 and 3 by x, 2 by y.
        due("next, low", e.next(1, 1), code(4, 1));
        due("next of all", e.next(0, 99), 0);
        // Up and flat at 2: beside the MAP's one place they would not be alike.
        EchoValley one = valley("map 1 1;");
        one.tell(0, 0, 99, 400);
        due("hidden", one.hidden(1, -1), 2);
        due("next on the MAP", one.next(1, 99), 0);
        e.tell(5, 5, 99, 401);
        due("none is hidden", e.next(2, 99), -2);
        due("next", e.next(3, 99), -1);
        due("next", e.next(-1, 99), -1);
        due("next", e.next(2, 0), -1);
        due("next", e.next(2, 100), -1);
        due("walls are as they were", e.count(0), 0);
        due("nothing is left standing", e.returns(5, 5, 5, 5, 99), 1);
    }

    // ---- promises 32 to 34

    private static void fog() {
        promise = 32;
        EchoValley e = valley("map 6 1; wall w up 5 0 9 0;");
        due("shout", e.shout(-40, 40, 99, -2), 0);
        due("shout", e.shout(40, -40, 1, 0), 1);
        int[][] odd = {{41, 0, 1, 0}, {-41, 0, 1, 0}, {0, 41, 1, 0}, {0, -41, 1, 0}, {0, 0, 0, 0}, {0, 0, 100, 0}, {0, 0, 1, -1}, {0, 0, 1, -3}};
        for (int[] o : odd) {
            due("shout " + Arrays.toString(o), e.shout(o[0], o[1], o[2], o[3]), -1);
        }
        for (int i = 2; i < 20; i++) {
            due("shout", e.shout(0, 0, 9, 9), i);
        }
        due("a 21st", e.shout(0, 0, 9, 9), -1);
        due("told", e.count(10), 20);
        due("echoes", e.count(9), 0);
        due("forget", e.forget(), 0);

        promise = 33;
        e.shout(0, 0, 50, 600);
        due("at 2", e.fitting(1, -1), 1);
        due("at 2", e.fitting(1, 0), 2);
        due("not so many", e.fitting(1, 1), -1);
        due("all", e.fitting(0, -1), 6);
        due("all", e.fitting(0, 5), 5);
        due("all", e.fitting(0, 6), -1);
        e.shout(2, 0, 50, 200);
        due("yet", e.fitting(2, -1), 1);
        e.shout(4, 0, 50, -2);
        due("off the map", e.fitting(3, -1), 0);
        due("off the map", e.fitting(3, 0), -1);
        due("k 4", e.fitting(4, -1), -1);
        due("k -1", e.fitting(-1, -1), -1);
        due("i -2", e.fitting(0, -2), -1);
        e.pace(5);
        due("another PACE", e.fitting(1, -1), 0);
        e.pace(10);
        e.move(0, 4);
        due("moved", e.fitting(1, 0), 1);
        e = valley("map 6 3; wall w flat 9 2 3 0; fall 2;");
        e.shout(0, 1, 99, 1400);
        due("by y, then x", e.fitting(1, -1), 2);
        due("by y, then x", e.fitting(1, 0), code(2, 1));
        due("by y, then x", e.fitting(1, 1), code(3, 1));
        EchoValley great = valley("map 40 40;");
        due("all of the greatest MAP", great.fitting(0, -1), 1600);
        due("all of the greatest MAP", great.fitting(0, 1599), code(39, 39));
        e.forget();
        e.shout(0, 0, 9, -2);
        due("nothing comes", e.fitting(1, -1), 14);
        due("nothing comes", e.fitting(1, 5), 5);
        due("nothing comes", e.fitting(1, 8), code(4, 1));
        // Loudness matters: of 8 by 2 it is too far from 18 on.
        e.forget();
        e.shout(0, 0, 8, -2);
        due("low", e.fitting(1, -1), 16);
    }

    private static void stepping() {
        promise = 34;
        EchoValley e = valley("map 6 1; wall w up 5 0 9 0;");
        // One place to the left all answers differ, off the MAP too; two of them are off by two.
        due("off the MAP is an answer", e.step(0, 50), 201);
        // Off the MAP is not what is told where nothing comes.
        e = valley("map 6 1; wall w up 0 0 9 0;");
        due("nothing comes is another", e.step(0, 50), 201);
        e.shout(0, 0, 50, 400);
        due("one alone: the least", e.step(1, 50), 0);
        e.shout(0, 0, 50, 401);
        due("nothing fits", e.step(2, 50), -2);
        due("step", e.step(3, 50), -1);
        due("step", e.step(-1, 50), -1);
        due("step", e.step(2, 0), -1);
        due("step", e.step(2, 100), -1);
        // Begun at 0 .. 3, 4 and more hear a loudness of 12 by 1 off a wall at 9; 3 and more one of 14.
        e = valley("map 8 1; wall w up 9 0 0 0; fall 1;");
        e.shout(0, 0, 12, -2);
        due("begun", e.fitting(1, -1), 4);
        due("by two to the right", e.step(1, 14), 204);
        due("no farther than two", e.step(1, 12), 200);
        e = valley("map 1 8; wall w flat 9 0 0 0; fall 1;");
        e.shout(0, 0, 12, -2);
        due("by two down", e.step(1, 14), 402);
        due("no farther than two", e.step(1, 12), 2);
        // Begun at 0 and 5 .. 8: by three to the left would be no worse than by two to the right.
        e = valley("map 9 1; wall w up 0 0 0 0; fall 1;");
        e.shout(0, 0, 10, -2);
        due("begun", e.fitting(1, -1), 5);
        due("no farther than two", e.step(1, 8), 204);
        e = valley("map 1 9; wall w flat 0 0 0 0; fall 1;");
        e.shout(0, 0, 10, -2);
        due("no farther than two", e.step(1, 8), 402);
        // Of alike ones the least dy, then dx.
        e = valley("map 3 3;");
        e.shout(1, 1, 9, -2);
        // From (0, 0) .. (1, 1): by one down half of them are off the MAP, and nothing comes to half.
        due("halves", e.step(1, 50), 102);
        e = valley("map 3 3; wall a up 9 0 1 0; wall b flat 9 0 0 0; fall 1;");
        // 1800, 1600, 1400; 1600, 1600, 1400; 1400 and none: three alike, and by one down too.
        due("loud", e.step(0, 99), 102);
        // Nothing comes: by one aslant four places of nine are on the MAP.
        due("low", e.step(0, 1), 101);
    }

    // ---- promises 35 to 37

    private static void slots() {
        promise = 35;
        EchoValley e = valley("wall a up 9 1 8 4; wall b flat 11 0 99 98; pace 7;");
        e.stands(1, false);
        due("hold", e.hold(0), true);
        due("hold", e.hold(2), true);
        due("hold", e.hold(3), false);
        for (int n : ODD) {
            due("hold", e.hold(n), false);
            due("restore", e.restore(n), false);
        }
        due("slots", e.count(12), 2);
        promise = 36;
        e.stands(0, false);
        e.stands(1, true);
        e.move(0, 1);
        e.move(1, 2);
        e.pace(99);
        e.tell(0, 0, 1, 1);
        due("hold", e.hold(1), true);
        due("slots", e.count(12), 3);
        due("restore", e.restore(0), true);
        due("where", e.wall(0, 1), 9);
        due("there", e.wall(0, 5), 1);
        due("where", e.wall(1, 1), 11);
        due("there", e.wall(1, 5), 0);
        due("pace", e.count(6), 7);
        due("told stays", e.count(9), 1);
        due("soft stays", e.wall(1, 4), 98);
        due("restore", e.restore(1), true);
        due("where", e.wall(0, 1), 1);
        due("there", e.wall(0, 5), 0);
        due("where", e.wall(1, 1), 2);
        due("there", e.wall(1, 5), 1);
        due("pace", e.count(6), 99);
        e.move(0, 77);
        due("it stays in the slot", e.restore(1), true);
        due("where", e.wall(0, 1), 1);
        e.move(0, 77);
        due("held anew", e.hold(1), true);
        e.move(0, 78);
        e.restore(1);
        due("where", e.wall(0, 1), 77);
        due("restore", e.restore(3), false);
        e = valley("wall a up 9 1 8 4;");
        e.hold(1);
        e.move(0, 4);
        due("nothing is held", e.restore(0), false);
        due("nothing is held", e.restore(2), false);
        due("where", e.wall(0, 1), 4);
        due("slots", e.count(12), 1);
        put(e, "wall a up 3 1 8 4;");
        e.read();
        due("nothing is held", e.restore(1), false);
        due("slots", e.count(12), 0);
    }

    private static void counts() {
        promise = 37;
        EchoValley e = valley("wall a up 9 1 8 4; man b 0 0 1; man c 0 0 1; ear d 0 0; ear e 0 0; ear f 0 0;"
            + "bell g 0 0 0; bell h 0 0 0; bell i 0 0 0; bell j 0 0 0; map 15 16; pace 17; fall 18; gap 19;");
        e.tell(0, 0, 1, 1);
        e.tell(0, 0, 1, 1);
        e.shout(0, 0, 1, 1);
        e.hold(1);
        put(e, "12345");
        e.stands(0, false);
        int[] want = {1, 2, 3, 4, 15, 16, 17, 18, 19, 2, 1, 5, 1};
        for (int what = 0; what < want.length; what++) {
            due("count " + what, e.count(what), want[what]);
        }
        e = valley(many("wall w? up 1 1 1 1;", 8) + many("man m? 1 1 1;", 6) + many("ear e? 1 1;", 6) + many("bell b? 1 ? 1;", 6)
            .replace("1 a", "1 7").replace("1 b", "1 8").replace("1 c", "1 9").replace("1 d", "1 6").replace("1 e", "1 5").replace("1 f", "1 4"));
        int[] most = {8, 6, 6, 6};
        for (int what = 0; what < most.length; what++) {
            due("count " + what, e.count(what), most[what]);
        }
        due("the sixth bell", e.first(1, 4, 0), 5);
        due("count 13", e.count(13), -1);
        for (int n : ODD) {
            due("count", e.count(n), -1);
        }
    }
}
