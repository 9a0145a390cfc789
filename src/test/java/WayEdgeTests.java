/** The edges of walls, WAYS and RETURNS: part II of the document, and promises 6 to 14. */
public final class WayEdgeTests {
    private static final Edges T = new Edges("WayEdgeTests");
    private static final int NONE = EchoValley.NONE;
    /** Three walls, two men, one ear, on a MAP that is wider than high. */
    private static final String TEXT = "map 9 6;wall a up 12 0 9 1;wall b flat 0 0 9 0;wall c up 0 0 9 2;man m 3 2 60;man n 4 4 1;ear e 5 3;";

    public static void main(String[] args) {
        if (run() != 0) {
            System.exit(1);
        }
    }

    static int run() {
        wallAsked();
        stands();
        stoodAgain();
        moved();
        paces();
        returnsAsked();
        atAsked();
        onTheLine();
        ownEnds();
        fractions();
        firstWallsEnds();
        secondWallsEnds();
        secondTrulyCrossed();
        notTheSame();
        blockedStraight();
        notAtEnds();
        piecesBlocked();
        blockedByItsOwn();
        blockersEnds();
        throughAWall();
        lengthNull();
        longToTheImage();
        softOfItsWalls();
        trueTime();
        loudness();
        comes();
        numbers();
        orderByTime();
        orderByLoud();
        orderByNumber();
        drownedByGap();
        drownedByLouder();
        drownedByDrowned();
        heardApart();
        heardOfNotDrowned();
        takenAway();
        tillTheNextText();
        touchNumbers();
        touchIsNone();
        touchRounded();
        touchNeedNotCome();
        heardAsked();
        heardByManAndEar();
        return T.end();
    }

    // ---- promises 6 to 9

    private static void wallAsked() {
        T.sentence("5: 1 if it is there, else 0. NONE for others.");
        T.range(TEXT, "wall", (e, a) -> e.wall(a[0], a[1]), new int[] {1, 2}, 0, 0, 2);
        T.range(TEXT, "wall", (e, a) -> e.wall(a[0], a[1]), new int[] {1, 2}, 1, 0, 5);
        String eight = Edges.many("wall w? up 1 1 1 1;", 8);
        T.range(eight, "wall", (e, a) -> e.wall(a[0], a[1]), new int[] {1, 2}, 0, 0, 7);
        EchoValley e = new EchoValley();
        for (int what = -1; what <= 6; what++) {
            T.due("none was told", e.wall(0, what), NONE);
        }
        e = T.valley("wall a flat 7 1 8 2;wall b up 99 99 99 99;wall c up 0 0 0 0;");
        int[][] want = {{1, 7, 1, 8, 2, 1}, {0, 99, 99, 99, 99, 1}, {0, 0, 0, 0, 0, 1}};
        for (int i = 0; i < 3; i++) {
            for (int what = 0; what < 6; what++) {
                T.due("wall " + i + " " + what, e.wall(i, what), want[i][what]);
            }
            e.stands(i, false);
            T.due("away", e.wall(i, 5), 0);
            T.due("where, yet", e.wall(i, 1), want[i][1]);
        }
    }

    private static void stands() {
        T.sentence("A WALL is there, or not: true; false: no such one.");
        for (boolean on : new boolean[] {true, false}) {
            T.range(TEXT, "stands", (e, a) -> e.stands(a[0], on) ? 1 : NONE, new int[1], 0, 0, 2);
            T.range("wall a up 1 1 1 1;", "stands", (e, a) -> e.stands(a[0], on) ? 1 : NONE, new int[1], 0, 0, 0);
            T.due("none was told", new EchoValley().stands(0, on), false);
        }
        EchoValley e = T.valley(TEXT);
        String before = Edges.state(e);
        for (int n : new int[] {3, 8, -1, 32, 33, 256, 1 << 16, Integer.MAX_VALUE, Integer.MIN_VALUE}) {
            T.due("stands " + n, e.stands(n, false), false);
        }
        T.due("nothing is changed", Edges.state(e), before);
    }

    private static void stoodAgain() {
        T.sentence("A WALL is there, or not: true;");
        EchoValley e = T.valley("wall a up 9 0 9 0;wall b flat 9 0 9 0;");
        boolean[] on = {true, false, false, true, true, false, true};
        for (boolean there : on) {
            T.due("stands", e.stands(0, there), true);
            T.due("there", e.wall(0, 5), there ? 1 : 0);
            T.due("the other one", e.wall(1, 5), 1);
            T.due("what comes off it", e.returns(5, 5, 5, 5, 99), there ? 3 : 2);
        }
    }

    private static void moved() {
        T.sentence("A WALL is moved to where (0 .. 99): true; false: no such ones.");
        T.range(TEXT, "move", (e, a) -> e.move(a[0], a[1]) ? 1 : NONE, new int[] {1, 5}, 0, 0, 2);
        T.range(TEXT, "move", (e, a) -> e.move(a[0], a[1]) ? 1 : NONE, new int[] {1, 5}, 1, 0, 99);
        EchoValley e = T.valley("map 9 9;wall a up 5 0 9 0;wall b flat 6 1 8 3;");
        String before = Edges.state(e);
        int[][] odd = {{0, 100}, {0, -1}, {2, 1}, {-1, 1}, {0, 256}, {0, Integer.MIN_VALUE}, {Integer.MIN_VALUE, 1}, {8, 1}};
        for (int[] o : odd) {
            T.due("move " + o[0] + " " + o[1], e.move(o[0], o[1]), false);
        }
        T.due("nothing is changed", Edges.state(e), before);
        for (int where : new int[] {0, 99, 98, 1, 40, 39}) {
            T.due("move", e.move(0, where), true);
            T.due("where", e.wall(0, 1), where);
            T.due("the other one", e.wall(1, 1), 6);
            T.due("from", e.wall(0, 2), 0);
            T.due("to", e.wall(0, 3), 9);
            T.due("it comes from there", e.touch(5, 8, 5, 8, 10, 0, false), 1000 * where);
        }
        e.stands(0, false);
        T.due("move what is away", e.move(0, 7), true);
        T.due("where", e.wall(0, 1), 7);
        T.due("away yet", e.wall(0, 5), 0);
        T.due("flat", e.move(1, 8), true);
        T.due("flat", e.touch(3, 3, 3, 3, 11, 0, true), 8000);
    }

    private static void paces() {
        T.sentence("PACE is told anew (1 .. 99): what it was; NONE, and nothing happens: no such one.");
        T.range(TEXT, "pace", (e, a) -> e.pace(a[0]), new int[1], 0, 1, 99);
        EchoValley e = new EchoValley();
        int[] told = {1, 99, 50, 50, 2};
        int was = 10;
        for (int p : told) {
            T.due("pace " + p, e.pace(p), was);
            T.due("pace now", e.count(6), p);
            T.due("TIME", e.at(0, 0, 0, 7, 99, 0, 1), 7000 / p);
            was = p;
            for (int odd : new int[] {0, 100, -1, 256 + 7, Integer.MAX_VALUE, Integer.MIN_VALUE}) {
                T.due("pace " + odd, e.pace(odd), NONE);
                T.due("pace now", e.count(6), p);
            }
        }
    }

    // ---- promises 10 and 11

    private static void returnsAsked() {
        T.sentence("How many RETURNS there are from (x, y) to (u, v) of a loudness (1 .. 99); NONE: no such ones (places of the MAP).");
        int[] usual = {3, 2, 5, 3, 60};
        int[] most = {8, 5, 8, 5, 99};
        for (int i = 0; i < 5; i++) {
            T.range(TEXT, "returns", (e, a) -> e.returns(a[0], a[1], a[2], a[3], a[4]), usual, i, i == 4 ? 1 : 0, most[i]);
        }
        EchoValley e = T.valley("map 20 1;fall 1;");
        T.due("none comes", e.returns(0, 0, 5, 0, 5), 0);
        T.due("one comes", e.returns(0, 0, 4, 0, 5), 1);
        T.due("none is at", e.at(0, 0, 5, 0, 5, 0, 0), NONE);
        // All that there can be: each way by one and by two between parallel walls.
        e = T.valley("map 9 9;wall a up 0 0 9 0;wall b up 8 0 9 0;wall c up 0 0 9 0;wall d up 8 0 9 0;wall f up 0 0 9 0;"
            + "wall g up 8 0 9 0;wall h up 0 0 9 0;wall i up 8 0 9 0;fall 99;");
        T.due("straight, 8 by one, 32 by two", e.returns(4, 4, 4, 4, 9), 41);
        T.due("the last one", e.at(4, 4, 4, 4, 9, 40, 0), 176);
        T.due("none behind it", e.at(4, 4, 4, 4, 9, 41, 0), NONE);
    }

    private static void atAsked() {
        T.sentence("Of the i-th of them: what 0 its NUMBER, 1 TIME, 2 LOUD, 3 LONG rounded down. NONE: not so many, no such ones.");
        int[] usual = {3, 2, 5, 3, 60, 0, 1};
        int[] most = {8, 5, 8, 5, 99, 0, 3};
        for (int i = 0; i < 7; i++) {
            if (i != 5) {
                T.range(TEXT, "at", (e, a) -> e.at(a[0], a[1], a[2], a[3], a[4], a[5], a[6]), usual, i, i == 4 ? 1 : 0, most[i]);
            }
        }
        int many = T.valley(TEXT).returns(3, 2, 5, 3, 60);
        T.range(TEXT, "at", (e, a) -> e.at(a[0], a[1], a[2], a[3], a[4], a[5], a[6]), usual, 5, 0, many - 1);
        EchoValley e = T.valley("map 9 9;wall a up 12 0 9 1;");
        T.dueReturns(e, new int[] {4, 4, 4, 7}, 9, new int[] {0, 300, 9, 3}, new int[] {10, 1627, 7, 16});
        T.due("no third", e.at(4, 4, 4, 7, 9, 2, 0), NONE);
        T.due("no second: too low", e.at(4, 4, 4, 7, 2, 1, 0), NONE);
        T.due("i -1", e.at(4, 4, 4, 7, 9, -1, 0), NONE);
        T.due("what 4", e.at(4, 4, 4, 7, 9, 0, 4), NONE);
        T.due("what -1", e.at(4, 4, 4, 7, 9, 0, -1), NONE);
    }

    // ---- which ways there are

    private static String turned(String text) {
        return text.replace(" up ", " | ").replace(" flat ", " up ").replace(" | ", " flat ");
    }

    /** Where a way touches its walls, two thousandths each; nothing: there is no such way. Also with x and y changed. */
    private static void way(String walls, int[] p, int number, int... want) {
        for (int turn = 0; turn < 2; turn++) {
            EchoValley e = T.valley("map 40 40;fall 99;" + (turn == 0 ? walls : turned(walls)));
            int[] q = turn == 0 ? p : new int[] {p[1], p[0], p[3], p[2]};
            for (int k = 0; k < (number >= 100 ? 2 : 1); k++) {
                for (int i = 0; i < 2; i++) {
                    int due = want.length == 0 ? -2 : want[2 * k + i];
                    T.due((turn == 0 ? "" : "turned ") + walls + " " + number + " touch " + k + " " + i,
                        e.touch(q[0], q[1], q[2], q[3], number, k, (i == 1) == (turn == 0)), due);
                }
            }
            boolean found = false;
            for (int i = 0; i < e.returns(q[0], q[1], q[2], q[3], 99); i++) {
                found |= e.at(q[0], q[1], q[2], q[3], 99, i, 0) == number;
            }
            T.due(walls + " " + number + " is heard", found, want.length > 0);
        }
    }

    private static int[] p(int... p) {
        return p;
    }

    private static void onTheLine() {
        T.sentence("straight from P to it the line is crossed, truly from one side to the other, at a place of the WALL (its ends too);");
        String wall = "wall a up 10 0 30 0;";
        way(wall, p(9, 5, 9, 5), 10, 10000, 5000);
        way(wall, p(11, 5, 11, 5), 10, 10000, 5000);
        way(wall, p(9, 5, 9, 7), 10, 10000, 6000);
        way(wall, p(11, 5, 12, 8), 10, 10000, 6000);
        way(wall, p(10, 5, 4, 5), 10);
        way(wall, p(4, 5, 10, 5), 10);
        way(wall, p(10, 5, 10, 5), 10);
        way(wall, p(10, 5, 10, 9), 10);
        way(wall, p(4, 5, 16, 5), 10);
        way(wall, p(9, 5, 11, 5), 10);
        way(wall, p(11, 5, 9, 8), 10);
        way("wall a up 0 0 30 0;", p(0, 5, 4, 5), 10);
        way("wall a up 0 0 30 0;", p(4, 5, 4, 5), 10, 0, 5000);
        way("wall a up 39 0 30 0;", p(38, 5, 38, 5), 10, 39000, 5000);
        way("wall a up 99 0 99 0;", p(39, 39, 39, 39), 10, 99000, 39000);
    }

    private static void ownEnds() {
        T.sentence("at a place of the WALL (its ends too); the WAY goes to that place, and from there to Q.");
        int[] p = {4, 5, 4, 9};
        way("wall a up 10 7 7 0;", p, 10, 10000, 7000);
        way("wall a up 10 7 20 0;", p, 10, 10000, 7000);
        way("wall a up 10 0 7 0;", p, 10, 10000, 7000);
        way("wall a up 10 8 20 0;", p, 10);
        way("wall a up 10 0 6 0;", p, 10);
        way("wall a up 10 0 0 0;", p(4, 0, 4, 0), 10, 10000, 0);
        way("wall a up 10 1 99 0;", p(4, 0, 4, 0), 10);
        way("wall a up 10 39 99 0;", p(4, 39, 4, 39), 10, 10000, 39000);
        way("wall a up 10 0 38 0;", p(4, 39, 4, 39), 10);
    }

    private static void fractions() {
        T.sentence("Q's mirror image is Q laid over to the other side of the WALL's line, as far behind it;");
        // At y 7 2/11 and at y 6 9/11: neither is rounded before it is compared.
        int[] over = {4, 5, 5, 9};
        way("wall a up 10 7 8 0;", over, 10, 10000, 7181);
        way("wall a up 10 7 7 0;", over, 10);
        way("wall a up 10 8 8 0;", over, 10);
        way("wall a up 10 8 30 0;", over, 10);
        way("wall a up 10 0 7 0;", over, 10);
        way("wall a up 10 0 8 0;", over, 10, 10000, 7181);
        int[] below = {5, 5, 4, 9};
        way("wall a up 10 6 7 0;", below, 10, 10000, 6818);
        way("wall a up 10 6 6 0;", below, 10);
        way("wall a up 10 7 9 0;", below, 10);
        way("wall a up 10 0 6 0;", below, 10);
    }

    private static void firstWallsEnds() {
        T.sentence("straight from P to it the first line is crossed, at a place of the first WALL, as above;");
        // To (-4, -3): over (0, 3), and then over (2, 0).
        int[] p = {2, 6, 4, 3};
        String b = "wall b flat 0 0 30 0;";
        way("wall a up 0 3 3 0;" + b, p, 101, 0, 3000, 2000, 0);
        way("wall a up 0 3 30 0;" + b, p, 101, 0, 3000, 2000, 0);
        way("wall a up 0 0 3 0;" + b, p, 101, 0, 3000, 2000, 0);
        way("wall a up 0 4 30 0;" + b, p, 101);
        way("wall a up 0 0 2 0;" + b, p, 101);
        way("wall a up 0 0 30 0;" + b, p, 110);
        way("wall a up 0 0 30 0;" + b, p(4, 3, 2, 6), 110, 2000, 0, 0, 3000);
        // Over (0, 1.75), and then over (2.333, 0).
        int[] q = {3, 4, 5, 2};
        way("wall a up 0 1 2 0;" + b, q, 101, 0, 1750, 2333, 0);
        way("wall a up 0 2 30 0;" + b, q, 101);
        way("wall a up 0 0 1 0;" + b, q, 101);
        way("wall a up 0 1 1 0;" + b, q, 101);
    }

    private static void secondWallsEnds() {
        T.sentence("the second line is crossed, likewise at a place of the second WALL;");
        int[] p = {2, 6, 4, 3};
        String a = "wall a up 0 0 30 0;";
        way(a + "wall b flat 0 2 2 0;", p, 101, 0, 3000, 2000, 0);
        way(a + "wall b flat 0 2 30 0;", p, 101, 0, 3000, 2000, 0);
        way(a + "wall b flat 0 0 2 0;", p, 101, 0, 3000, 2000, 0);
        way(a + "wall b flat 0 3 30 0;", p, 101);
        way(a + "wall b flat 0 0 1 0;", p, 101);
        int[] q = {3, 4, 5, 2};
        way(a + "wall b flat 0 2 3 0;", q, 101, 0, 1750, 2333, 0);
        way(a + "wall b flat 0 3 30 0;", q, 101);
        way(a + "wall b flat 0 0 2 0;", q, 101);
        way(a + "wall b flat 0 2 2 0;", q, 101);
    }

    private static void secondTrulyCrossed() {
        T.sentence("from there to Q laid over the second line alone the second line is crossed,");
        String corner = "wall a up 0 0 30 0;wall b flat 0 0 30 0;";
        // Through the corner itself.
        way(corner, p(2, 2, 4, 4), 101);
        way(corner, p(2, 2, 4, 4), 110);
        way(corner, p(3, 4, 3, 4), 101);
        way(corner, p(3, 4, 3, 4), 110);
        way(corner, p(2, 6, 4, 0), 101);
        way(corner, p(2, 6, 0, 3), 101);
        way(corner, p(0, 6, 4, 3), 101);
        way(corner, p(4, 0, 2, 5), 101);
        String both = "wall a up 0 0 30 0;wall b up 10 0 30 0;";
        way(both, p(3, 5, 3, 5), 101, 0, 5000, 10000, 5000);
        // Behind its last wall the way may end on the first one's line, and it may begin on the last one's.
        way(both, p(3, 5, 0, 5), 101, 0, 5000, 10000, 5000);
        way(both, p(10, 5, 3, 5), 101, 0, 5000, 10000, 5000);
        way(both, p(10, 5, 0, 5), 101, 0, 5000, 10000, 5000);
        way(both, p(0, 5, 3, 5), 101);
        way(both, p(3, 5, 10, 5), 101);
        way(both, p(0, 5, 3, 5), 110, 10000, 5000, 0, 5000);
    }

    private static void notTheSame() {
        T.sentence("by two, one after the other, not the same.");
        EchoValley e = T.valley("wall a up 5 0 9 0;wall b up 5 0 9 0;");
        T.dueReturns(e, p(2, 3, 2, 3), 30, p(0, 0, 30, 0), p(10, 600, 30, 6), p(11, 600, 30, 6));
        T.due("by the same", e.touch(2, 3, 2, 3, 100, 0, true), NONE);
        T.due("by the same", e.touch(2, 3, 2, 3, 111, 0, true), NONE);
        T.due("by two on one line", e.touch(2, 3, 2, 3, 101, 0, true), -2);
        T.due("by two on one line", e.touch(2, 3, 2, 3, 110, 0, true), -2);
    }

    // ---- BLOCKED

    /** Whether straight from P to Q there is a way. */
    private static void straight(String walls, int[] p, boolean want) {
        for (int turn = 0; turn < 2; turn++) {
            EchoValley e = T.valley("map 40 40;fall 99;" + (turn == 0 ? walls : turned(walls)));
            int[] q = turn == 0 ? p : new int[] {p[1], p[0], p[3], p[2]};
            boolean there = e.at(q[0], q[1], q[2], q[3], 9, 0, 0) == 0;
            T.due((turn == 0 ? "" : "turned ") + walls + " straight", there, want);
            boolean back = e.at(q[2], q[3], q[0], q[1], 9, 0, 0) == 0;
            T.due((turn == 0 ? "" : "turned ") + walls + " straight back", back, want);
        }
    }

    private static void blockedStraight() {
        T.sentence("it crosses the WALL's line truly from one side to the other at a place of the WALL (its ends too).");
        int[] p = {0, 0, 4, 2};
        straight("wall a up 2 1 1 0;", p, false);
        straight("wall a up 2 1 9 0;", p, false);
        straight("wall a up 2 0 1 0;", p, false);
        straight("wall a up 2 2 9 0;", p, true);
        straight("wall a up 2 0 0 0;", p, true);
        // At y 2/3 and 1 1/3.
        int[] q = {0, 0, 3, 2};
        straight("wall a up 1 0 1 0;", q, false);
        straight("wall a up 1 0 0 0;", q, true);
        straight("wall a up 1 1 9 0;", q, true);
        straight("wall a up 2 1 2 0;", q, false);
        straight("wall a up 2 0 1 0;", q, true);
        straight("wall a up 2 2 9 0;", q, true);
    }

    private static void notAtEnds() {
        T.sentence("A piece of a WAY is BLOCKED by a WALL if, within the piece (not at its ends),");
        int[] p = {1, 0, 5, 2};
        straight("wall a up 1 0 9 0;", p, true);
        straight("wall a up 5 0 9 0;", p, true);
        straight("wall a up 0 0 9 0;", p, true);
        straight("wall a up 6 0 9 0;", p, true);
        straight("wall a flat 0 0 9 0;", p, true);
        straight("wall a flat 2 0 9 0;", p, true);
        straight("wall a up 2 0 9 0;", p, false);
        straight("wall a up 4 0 9 0;", p, false);
        // Along the line, and across it.
        int[] along = {3, 1, 3, 7};
        straight("wall a up 3 0 9 0;", along, true);
        straight("wall a up 3 4 4 0;", along, true);
        straight("wall a flat 1 0 9 0;", along, true);
        straight("wall a flat 7 0 9 0;", along, true);
        straight("wall a flat 4 3 3 0;", along, false);
        straight("wall a flat 4 4 9 0;", along, true);
        straight("wall a flat 4 0 2 0;", along, true);
        straight("wall a flat 6 0 9 0;", along, false);
        straight("wall a flat 8 0 9 0;", along, true);
    }

    private static void piecesBlocked() {
        T.sentence("A WAY of which a piece is BLOCKED by a WALL is none.");
        // By (10, 7): the first piece is at y 6 where x is 7, the second one at y 8.
        int[] p = {4, 5, 4, 9};
        String a = "wall a up 10 0 30 0;";
        way(a + "wall b up 7 6 6 0;", p, 10);
        way(a + "wall b up 7 0 6 0;", p, 10);
        way(a + "wall b up 7 0 5 0;", p, 10, 10000, 7000);
        way(a + "wall b up 7 7 7 0;", p, 10, 10000, 7000);
        way(a + "wall b up 7 8 8 0;", p, 10);
        way(a + "wall b up 7 8 30 0;", p, 10);
        way(a + "wall b up 7 9 30 0;", p, 10, 10000, 7000);
        way(a + "wall b up 11 0 30 0;", p, 10, 10000, 7000);
        way(a + "wall b flat 6 0 30 0;", p, 10);
        way(a + "wall b flat 8 0 30 0;", p, 10);
        // From (2, 4) over (0, 6) and (12, 18) to (2, 28).
        int[] q = {2, 4, 2, 28};
        String ab = "wall a up 0 0 39 0;wall b up 12 0 39 0;";
        int[] open = {0, 6000, 12000, 18000};
        way(ab, q, 101, open);
        way(ab + "wall c up 1 5 5 0;", q, 101);
        way(ab + "wall c up 1 6 6 0;", q, 101, open);
        way(ab + "wall c flat 12 6 6 0;", q, 101);
        way(ab + "wall c flat 12 7 30 0;", q, 101, open);
        way(ab + "wall c flat 12 0 5 0;", q, 101, open);
        way(ab + "wall c up 7 23 23 0;", q, 101);
        way(ab + "wall c up 7 24 30 0;", q, 101, open);
        way(ab + "wall c up 6 12 12 0;", q, 101);
        // At the pieces' ends nothing is in the way.
        way(ab + "wall c flat 6 0 0 0;", q, 101, open);
        way(ab + "wall c flat 18 12 12 0;", q, 101, open);
        way(ab + "wall c flat 4 0 39 0;", q, 101, open);
        way(ab + "wall c flat 28 0 39 0;", q, 101, open);
        way(ab + "wall c up 0 0 39 0;", q, 101, open);
        way(ab + "wall c up 12 0 39 0;", q, 101, open);
    }

    private static void blockedByItsOwn() {
        T.sentence("A piece of a WAY is BLOCKED by a WALL");
        // Off a at (5, 4/3), off b at (2, 10/3), and then through a's line at y 5 1/3.
        int[] p = {3, 0, 9, 8};
        way("wall a up 5 0 5 0;wall b up 2 0 30 0;", p, 101, 5000, 1333, 2000, 3333);
        way("wall a up 5 0 6 0;wall b up 2 0 30 0;", p, 101);
        // Through b's line at y 3, off a at (10, 8), off b at (5, 13).
        int[] q = {2, 0, 7, 15};
        way("wall a up 10 0 30 0;wall b up 5 4 30 0;", q, 101, 10000, 8000, 5000, 13000);
        way("wall a up 10 0 30 0;wall b up 5 3 30 0;", q, 101);
        way("wall a up 10 0 30 0;wall b up 5 4 13 0;", q, 101, 10000, 8000, 5000, 13000);
        way("wall a up 10 0 30 0;wall b up 5 4 12 0;", q, 101);
    }

    private static void blockersEnds() {
        T.sentence("at a place of the WALL (its ends too). A WAY of which");
        // Where x is 5 the first piece is at y 2.26, the piece between at 7.91; the last one does not go there.
        int[] p = {1, 0, 4, 13};
        String ab = "wall a up 10 0 39 0;wall b up 0 0 39 0;";
        int[] open = {10000, 5086, 0, 10739};
        way(ab, p, 101, open);
        way(ab + "wall c up 5 7 7 0;", p, 101, open);
        way(ab + "wall c up 5 8 39 0;", p, 101, open);
        way(ab + "wall c up 5 7 8 0;", p, 101);
        way(ab + "wall c up 5 0 1 0;", p, 101, open);
        way(ab + "wall c up 5 2 3 0;", p, 101);
    }

    private static void throughAWall() {
        T.sentence("WAYS of a sound from a place P to a place Q: straight; by one WALL;");
        EchoValley e = T.valley("wall a up 5 0 19 0;");
        T.due("a wall between", e.returns(2, 5, 8, 5, 99), 0);
        T.due("to its line", e.returns(2, 5, 5, 5, 99), 1);
        T.due("from its line", e.returns(5, 5, 8, 5, 99), 1);
        T.due("along its line", e.returns(5, 2, 5, 8, 99), 1);
        e = T.valley("wall a up 5 0 3 0;");
        T.due("past its end", e.returns(2, 4, 8, 4, 99), 1);
        T.due("over its end", e.returns(2, 3, 8, 3, 99), 0);
    }

    private static void lengthNull() {
        T.sentence("(Straight from P to P: a WAY of length 0.)");
        EchoValley e = T.valley("map 5 4;wall a up 2 0 9 0;wall b flat 2 0 9 0;wall c up 2 2 2 0;");
        for (int x = 0; x < 5; x++) {
            for (int y = 0; y < 4; y++) {
                T.due("NUMBER", e.at(x, y, x, y, 1, 0, 0), 0);
                T.due("TIME", e.at(x, y, x, y, 1, 0, 1), 0);
                T.due("LOUD", e.at(x, y, x, y, 1, 0, 2), 1);
                T.due("LONG", e.at(x, y, x, y, 99, 0, 3), 0);
            }
        }
        T.dueReturns(e, p(2, 2, 2, 2), 99, p(0, 0, 99, 0));
    }

    // ---- TIME and LOUD

    private static void longToTheImage() {
        T.sentence("LONG: its length, that from P to the last image (or Q).");
        EchoValley e = T.valley("map 20 20;fall 99;wall a up 10 0 19 0;");
        // 12.649, 12.369 and 12 long; of the last no more is left than nothing.
        T.dueReturns(e, p(4, 5, 4, 9), 9, p(0, 400, 9, 4), p(10, 1264, 9, 12));
        T.dueReturns(e, p(4, 5, 4, 8), 9, p(0, 300, 9, 3), p(10, 1236, 9, 12));
        T.dueReturns(e, p(4, 5, 4, 5), 9, p(0, 0, 9, 0), p(10, 1200, 9, 12));
        T.dueReturns(e, p(9, 5, 9, 5), 9, p(0, 0, 9, 0), p(10, 200, 9, 2));
        e = T.valley("map 20 20;fall 99;wall a up 0 0 19 0;wall b flat 0 0 19 0;");
        T.dueReturns(e, p(2, 6, 4, 3), 9, p(0, 360, 9, 3), p(10, 670, 9, 6), p(11, 921, 9, 9), p(101, 1081, 9, 10));
    }

    private static void softOfItsWalls() {
        T.sentence("LOUD of a sound of loudness s: s, less SOFT of its WALLS,");
        String[] soft = {"0;", "1;", "29;", "30;", "98;", "99;"};
        int[] off = {0, 1, 29, 30, 98, 99};
        for (int i = 0; i < soft.length; i++) {
            EchoValley e = T.valley("fall 99;wall a up 0 0 19 " + soft[i] + "wall b up 9 0 19 0;wall c flat 19 0 0 99;");
            T.due("off a of 99", e.touch(4, 4, 4, 4, 10, 0, false), 0);
            int many = off[i] < 99 ? 5 : 2;
            T.due("of 99 with " + soft[i], e.returns(4, 4, 4, 4, 99), many);
            T.due("the near one", e.at(4, 4, 4, 4, 99, 1, 2), off[i] < 99 ? 99 - off[i] : 99);
            T.due("the far one", e.at(4, 4, 4, 4, 99, off[i] < 99 ? 2 : 1, 2), 99);
            T.due("off both", e.at(4, 4, 4, 4, 99, 3, 2), off[i] < 99 ? 99 - off[i] : NONE);
            T.due("of one less", e.returns(4, 4, 4, 4, Math.max(1, off[i])), off[i] == 0 ? 5 : 2);
        }
    }

    private static void trueTime() {
        T.sentence("TIME: 1000 times LONG by PACE, rounded down (of the true length).");
        int[][] due = {{1, 1, 3, 471}, {1, 1, 7, 202}, {1, 1, 1, 1414}, {0, 3, 7, 428}, {7, 0, 7, 1000}, {5, 0, 99, 50}, {1, 0, 99, 10},
            {39, 39, 1, 55154}, {25, 1, 1, 25019}, {39, 32, 1, 50447}, {0, 0, 1, 0}, {3, 4, 10, 500}, {3, 4, 99, 50}, {9, 0, 1, 9000},
            {9, 0, 9, 1000}, {9, 0, 8, 1125}, {1, 0, 3, 333}, {2, 0, 3, 666}};
        for (int[] d : due) {
            EchoValley e = T.valley("map 40 40;fall 99;pace " + d[2] + ";");
            T.due("TIME of " + d[0] + " " + d[1] + " by " + d[2], e.at(0, 0, d[0], d[1], 9, 0, 1), d[3]);
            T.due("and back", e.at(d[0], d[1], 0, 0, 9, 0, 1), d[3]);
        }
        // The longest there is: by two walls, 99 and 0.
        EchoValley e = T.valley("map 40 40;fall 99;pace 1;wall a up 99 0 99 0;wall b up 0 0 99 0;");
        T.due("LONG", e.at(39, 0, 39, 39, 99, 4, 3), 201);
        T.due("TIME", e.at(39, 0, 39, 39, 99, 4, 1), 201804);
    }

    private static void loudness() {
        T.sentence("less LONG by FALL (LONG rounded down, then the quotient rounded down).");
        // 7, 7 is 9.899 long; 14, 14 is 19.79; 6, 8 is 10.
        int[][] due = {{7, 7, 9, 49}, {7, 7, 10, 50}, {7, 7, 1, 41}, {7, 7, 4, 48}, {7, 7, 5, 49}, {14, 14, 10, 49}, {14, 14, 19, 49},
            {14, 14, 20, 50}, {6, 8, 10, 49}, {6, 8, 11, 50}, {6, 8, 5, 48}, {6, 8, 6, 49}, {6, 8, 99, 50}, {0, 0, 1, 50}, {1, 0, 1, 49}};
        for (int[] d : due) {
            EchoValley e = T.valley("fall " + d[2] + ";");
            T.due("LOUD of " + d[0] + " " + d[1] + " by " + d[2], e.at(0, 0, d[0], d[1], 50, 0, 2), d[3]);
        }
        T.due("LONG", new EchoValley().at(0, 0, 7, 7, 50, 0, 3), 9);
        T.due("LONG", new EchoValley().at(0, 0, 6, 8, 50, 0, 3), 10);
        T.due("LONG", new EchoValley().at(0, 0, 14, 14, 50, 0, 3), 19);
    }

    private static void comes() {
        T.sentence("It COMES if LOUD is 1 or more.");
        EchoValley e = T.valley("map 20 20;");
        T.due("1 less 1", e.returns(0, 0, 10, 0, 1), 0);
        T.dueReturns(e, p(0, 0, 10, 0), 2, p(0, 1000, 1, 10));
        T.dueReturns(e, p(0, 0, 9, 0), 1, p(0, 900, 1, 9));
        // SOFT 4 and 3: off a 8 long, off b 6, off both 14.
        String text = "map 12 9;wall a up 9 0 9 4;wall b up 2 0 9 3;fall 20;";
        int[][] many = {{3, 1}, {4, 2}, {5, 3}, {7, 3}, {8, 5}, {99, 5}};
        for (int[] m : many) {
            T.due("of " + m[0], T.valley(text).returns(5, 5, 5, 5, m[0]), m[1]);
        }
        T.dueReturns(T.valley(text), p(5, 5, 5, 5), 8, p(0, 0, 8, 0), p(11, 600, 5, 6), p(10, 800, 4, 8), p(101, 1400, 1, 14),
            p(110, 1400, 1, 14));
        e = T.valley("wall a up 9 0 9 99;wall b flat 9 0 9 98;fall 99;");
        T.dueReturns(e, p(5, 5, 5, 5), 99, p(0, 0, 99, 0), p(11, 800, 1, 8));
        T.dueReturns(e, p(5, 5, 5, 5), 98, p(0, 0, 98, 0));
        T.dueReturns(e, p(5, 5, 5, 5), 1, p(0, 0, 1, 0));
    }

    private static void numbers() {
        T.sentence("NUMBER of a WAY: 0 straight, 10 and the WALL, 100 and 10 times the first one and the second one.");
        EchoValley e = T.valley(Edges.many("wall w? up 99 99 99 0;", 6) + "wall y up 2 0 9 0;wall z up 9 0 9 0;");
        T.dueReturns(e, p(5, 5, 5, 5), 30, p(0, 0, 30, 0), p(16, 600, 30, 6), p(17, 800, 30, 8), p(167, 1400, 29, 14), p(176, 1400, 29, 14));
        e.stands(6, false);
        T.dueReturns(e, p(5, 5, 5, 5), 30, p(0, 0, 30, 0), p(17, 800, 30, 8));
        e = T.valley("wall y up 2 0 9 0;" + Edges.many("wall w? up 99 99 99 0;", 6) + "wall z up 9 0 9 0;");
        T.dueReturns(e, p(5, 5, 5, 5), 30, p(0, 0, 30, 0), p(10, 600, 30, 6), p(17, 800, 30, 8), p(107, 1400, 29, 14), p(170, 1400, 29, 14));
        // From 5 to 6 by the near wall first it is 3, 7 and 3 long.
        T.dueReturns(e, p(5, 5, 6, 5), 30, p(0, 100, 30, 1), p(10, 700, 30, 7), p(17, 700, 30, 7), p(107, 1300, 29, 13), p(170, 1500, 29, 15));
    }

    // ---- the order of RETURNS

    private static void orderByTime() {
        T.sentence("RETURNS from P to Q of a loudness: WAYS that COME, by TIME,");
        // Nearer and softer goes first.
        EchoValley e = T.valley("wall a up 9 0 9 0;wall b flat 8 0 9 20;");
        T.dueReturns(e, p(5, 5, 5, 5), 30, p(0, 0, 30, 0), p(11, 600, 10, 6), p(10, 800, 30, 8));
        e = T.valley("wall a flat 8 0 9 20;wall b up 9 0 9 0;");
        T.dueReturns(e, p(5, 5, 5, 5), 30, p(0, 0, 30, 0), p(10, 600, 10, 6), p(11, 800, 30, 8));
        // Straight is blocked: what is told last comes first.
        EchoValley late = T.valley("wall a up 0 0 19 0;wall b up 9 0 19 0;wall c flat 5 7 7 0;");
        T.dueReturns(late, p(7, 4, 7, 6), 30, p(11, 447, 30, 4), p(10, 1414, 29, 14), p(101, 1811, 29, 18), p(110, 1811, 29, 18));
        late = T.valley("wall c flat 5 7 7 0;wall b up 9 0 19 0;wall a up 0 0 19 0;");
        T.dueReturns(late, p(7, 4, 7, 6), 30, p(11, 447, 30, 4), p(12, 1414, 29, 14), p(112, 1811, 29, 18), p(121, 1811, 29, 18));
        // What does not come is not among them: the i-th is the i-th that comes.
        T.dueReturns(e, p(5, 5, 5, 5), 20, p(0, 0, 20, 0), p(11, 800, 20, 8));
    }

    /** From (4, 5) to (6, 5) it is 30 long off the up wall and 30.07 off the flat one; by 99 both take 303. */
    private static final String ALIKE = "pace 99;fall 30;";

    private static void orderByLoud() {
        T.sentence("of alike ones by LOUD, the greater first,");
        EchoValley e = T.valley(ALIKE + "wall a up 20 5 5 1;wall b flat 20 5 5 0;");
        T.dueReturns(e, p(4, 5, 6, 5), 9, p(0, 20, 9, 2), p(11, 303, 8, 30), p(10, 303, 7, 30));
        e = T.valley(ALIKE + "wall a flat 20 5 5 1;wall b up 20 5 5 0;");
        T.dueReturns(e, p(4, 5, 6, 5), 9, p(0, 20, 9, 2), p(11, 303, 8, 30), p(10, 303, 7, 30));
        e = T.valley(ALIKE + "wall a flat 20 5 5 0;wall b up 20 5 5 1;");
        T.dueReturns(e, p(4, 5, 6, 5), 9, p(0, 20, 9, 2), p(10, 303, 8, 30), p(11, 303, 7, 30));
        e.pace(50);
        T.dueReturns(e, p(4, 5, 6, 5), 9, p(0, 40, 9, 2), p(11, 600, 7, 30), p(10, 601, 8, 30));
    }

    private static void orderByNumber() {
        T.sentence("the greater first, then by NUMBER.");
        EchoValley e = T.valley(ALIKE + "wall a flat 20 5 5 0;wall b up 20 5 5 0;");
        T.dueReturns(e, p(4, 5, 6, 5), 9, p(0, 20, 9, 2), p(10, 303, 8, 30), p(11, 303, 8, 30));
        e = T.valley(ALIKE + "wall a up 20 5 5 0;wall b flat 20 5 5 0;");
        T.dueReturns(e, p(4, 5, 6, 5), 9, p(0, 20, 9, 2), p(10, 303, 8, 30), p(11, 303, 8, 30));
        // Straight and off a wall take as long: 30 and 30.07.
        e = T.valley("map 40 9;pace 99;fall 1;wall a flat 0 0 39 0;");
        T.dueReturns(e, p(0, 1, 30, 1), 40, p(0, 303, 10, 30), p(10, 303, 10, 30));
        // By two walls, and by each other two.
        e = T.valley("wall a up 8 0 9 0;wall b up 2 0 9 0;wall c up 8 0 9 0;");
        T.dueReturns(e, p(5, 5, 5, 5), 99, p(0, 0, 99, 0), p(10, 600, 99, 6), p(11, 600, 99, 6), p(12, 600, 99, 6), p(101, 1200, 98, 12),
            p(110, 1200, 98, 12), p(112, 1200, 98, 12), p(121, 1200, 98, 12));
    }

    // ---- promises 13 and 14

    /** RETURNS at 0, 200 off the up wall and 400 off the flat one, of 30 less SOFT. */
    private static String three(int gap, int softUp, int softFlat) {
        return "fall 99;man m 5 5 30;ear e 5 5;wall a up 6 0 9 " + softUp + ";wall b flat 7 0 9 " + softFlat + ";gap " + gap + ";";
    }

    private static void heardAndDrowned(String text, int heard, int drowned) {
        T.due("heard of " + text, T.valley(text).heard(0, 0), heard);
        T.due("drowned of " + text, T.valley(text).drowned(0, 0), drowned);
    }

    private static void drownedByGap() {
        T.sentence("A RETURN is DROWNED if one ahead of it, less than GAP ahead in TIME, is louder.");
        heardAndDrowned(three(0, 1, 1), 3, 0);
        heardAndDrowned(three(200, 1, 1), 3, 0);
        heardAndDrowned(three(201, 1, 1), 2, 1);
        heardAndDrowned(three(400, 1, 1), 2, 1);
        heardAndDrowned(three(401, 1, 1), 1, 2);
        heardAndDrowned(three(9999, 1, 1), 1, 2);
        // At the same TIME: with GAP 0 nothing is drowned, with 1 the softer one.
        String alike = "fall 99;man m 5 5 30;ear e 5 5;wall a up 6 0 9 0;wall b flat 6 0 9 1;";
        heardAndDrowned(alike + "gap 0;", 3, 0);
        heardAndDrowned(alike + "gap 1;", 2, 1);
        heardAndDrowned(alike + "gap 200;", 2, 1);
        heardAndDrowned(alike + "gap 201;", 1, 1);
    }

    private static void drownedByLouder() {
        T.sentence("less than GAP ahead in TIME, is louder.");
        heardAndDrowned(three(9999, 0, 0), 1, 0);
        heardAndDrowned(three(9999, 1, 0), 1, 1);
        heardAndDrowned(three(9999, 0, 1), 1, 1);
        heardAndDrowned(three(401, 0, 1), 1, 1);
        // Not by one that is behind: 200 of 10 and 400 of 20.
        heardAndDrowned(three(201, 20, 10), 2, 1);
        heardAndDrowned(three(200, 20, 10), 3, 0);
        // What does not come drowns nothing.
        heardAndDrowned(three(9999, 30, 0), 1, 0);
        heardAndDrowned("fall 1;man m 5 5 3;ear e 9 5;gap 9999;", 0, 0);
    }

    private static void drownedByDrowned() {
        T.sentence("if one ahead of it, less than GAP ahead in TIME,");
        // 0 of 30, 200 of 20, 400 of 19 or 20: by what is drowned itself.
        heardAndDrowned(three(201, 10, 11), 1, 2);
        heardAndDrowned(three(201, 10, 10), 2, 1);
        heardAndDrowned(three(200, 10, 11), 3, 0);
        // 0 of 30, 200 of 29, 400 of 30: not only what is next ahead.
        heardAndDrowned(three(401, 1, 1), 1, 2);
        heardAndDrowned(three(401, 29, 1), 1, 2);
        heardAndDrowned(three(400, 29, 1), 2, 1);
    }

    private static void heardApart() {
        T.sentence("in their order, the first, and each that is GAP or more behind the last one HEARD apart.");
        heardAndDrowned(three(0, 0, 0), 3, 0);
        heardAndDrowned(three(1, 0, 0), 3, 0);
        heardAndDrowned(three(200, 0, 0), 3, 0);
        heardAndDrowned(three(201, 0, 0), 2, 0);
        heardAndDrowned(three(400, 0, 0), 2, 0);
        heardAndDrowned(three(401, 0, 0), 1, 0);
        String alike = "fall 99;man m 5 5 30;ear e 5 5;wall a up 6 0 9 0;wall b flat 6 0 9 0;";
        heardAndDrowned(alike + "gap 0;", 3, 0);
        heardAndDrowned(alike + "gap 1;", 2, 0);
        // The first one may be late: straight is blocked.
        String late = "fall 99;man m 5 4 30;ear e 5 6;wall a flat 5 5 5 0;wall b up 6 0 9 0;wall c up 3 0 9 0;";
        heardAndDrowned(late + "gap 9999;", 1, 0);
        heardAndDrowned(late + "gap 0;", 4, 0);
        heardAndDrowned("man m 4 5 30;ear e 6 5;wall a up 5 0 9 0;", 0, 0);
    }

    private static void heardOfNotDrowned() {
        T.sentence("HEARD apart: of those that are not DROWNED,");
        // 0 of 30, 200 of 29 drowned, 400 of 30: 200 behind what is drowned, 400 behind the last one heard.
        heardAndDrowned(three(201, 1, 0), 2, 1);
        heardAndDrowned(three(400, 1, 0), 2, 1);
        heardAndDrowned(three(401, 1, 0), 1, 1);
        heardAndDrowned(three(201, 0, 1), 1, 1);
    }

    private static void heardByManAndEar() {
        T.sentence("How many RETURNS from a MAN to an EAR are HEARD apart;");
        // With GAP 0 all are HEARD apart and none is DROWNED; with 9999 only the first is HEARD.
        String text = "map 20 15;wall a up 17 0 19 3;wall b flat 0 2 9 0;wall c up 0 4 12 1;wall d flat 14 0 19 0;man m 3 2 30;man n 12 9 5;man o 16 1 9;"
            + "ear e 5 13;ear f 1 7;ear g 14 3;fall 5;gap ";
        int[][] men = {{3, 2, 30}, {12, 9, 5}, {16, 1, 9}};
        int[][] ears = {{5, 13}, {1, 7}, {14, 3}};
        EchoValley none = T.valley(text + "0;");
        EchoValley all = T.valley(text + "9999;");
        for (int man = 0; man < 3; man++) {
            for (int ear = 0; ear < 3; ear++) {
                int[] p = {men[man][0], men[man][1], ears[ear][0], ears[ear][1]};
                int many = all.returns(p[0], p[1], p[2], p[3], men[man][2]);
                int lower = 0;
                int loudest = 0;
                for (int i = 0; i < many; i++) {
                    int loud = all.at(p[0], p[1], p[2], p[3], men[man][2], i, 2);
                    lower += loud < loudest ? 1 : 0;
                    loudest = Math.max(loudest, loud);
                }
                T.due("all from " + man + " to " + ear, none.heard(man, ear), many);
                T.due("none from " + man + " to " + ear, none.drowned(man, ear), 0);
                T.due("the first from " + man + " to " + ear, all.heard(man, ear), Math.min(1, many));
                T.due("the lower ones from " + man + " to " + ear, all.drowned(man, ear), lower);
            }
        }
    }

    private static void heardAsked() {
        T.sentence("How many RETURNS from a MAN to an EAR are HEARD apart; NONE: no such ones.");
        String[] texts = {TEXT, "man a 1 1 1;ear b 1 1;ear c 1 1;", Edges.many("man m? 1 1 1;", 6) + Edges.many("ear e? 1 1;", 6)};
        int[] men = {2, 1, 6};
        int[] ears = {1, 2, 6};
        for (int i = 0; i < 3; i++) {
            T.range(texts[i], "heard", (e, a) -> e.heard(a[0], a[1]), new int[2], 0, 0, men[i] - 1);
            T.range(texts[i], "heard", (e, a) -> e.heard(a[0], a[1]), new int[2], 1, 0, ears[i] - 1);
        }
        T.due("no man, no ear", new EchoValley().heard(0, 0), NONE);
        T.due("no man", T.valley("ear e 1 1;").heard(0, 0), NONE);
        T.due("no ear", T.valley("man m 1 1 1;").heard(0, 0), NONE);
        T.sentence("How many of them are DROWNED; NONE: no such ones.");
        for (int i = 0; i < 3; i++) {
            T.range(texts[i], "drowned", (e, a) -> e.drowned(a[0], a[1]), new int[2], 0, 0, men[i] - 1);
            T.range(texts[i], "drowned", (e, a) -> e.drowned(a[0], a[1]), new int[2], 1, 0, ears[i] - 1);
        }
        T.due("no man, no ear", new EchoValley().drowned(0, 0), NONE);
        T.due("no man", T.valley("ear e 1 1;").drowned(0, 0), NONE);
        T.due("no ear", T.valley("man m 1 1 1;").drowned(0, 0), NONE);
    }

    // ---- walls that are taken away

    private static void takenAway() {
        T.sentence("WALLS that are taken away are not there till the next text (or till put up again); they keep their numbers.");
        EchoValley e = T.valley("wall a up 9 0 9 0;wall b up 2 0 9 0;wall c up 7 5 5 0;");
        T.dueReturns(e, p(5, 5, 5, 5), 30, p(0, 0, 30, 0), p(12, 400, 30, 4), p(11, 600, 30, 6), p(112, 1000, 29, 10), p(121, 1000, 29, 10));
    }

    private static void tillTheNextText() {
        T.sentence("(or till put up again); they keep their numbers.");
        EchoValley e = T.valley("wall a up 9 0 9 0;wall b up 2 0 9 0;wall c up 7 5 5 0;");
        e.stands(2, false);
        T.due("they are counted yet", e.count(0), 3);
        T.dueReturns(e, p(5, 5, 5, 5), 30, p(0, 0, 30, 0), p(11, 600, 30, 6), p(10, 800, 30, 8), p(101, 1400, 29, 14), p(110, 1400, 29, 14));
        e.stands(0, false);
        T.dueReturns(e, p(5, 5, 5, 5), 30, p(0, 0, 30, 0), p(11, 600, 30, 6));
        T.due("straight through two", e.returns(5, 5, 12, 5, 30), 2);
        T.due("its way", e.touch(5, 5, 5, 5, 10, 0, false), -2);
        T.due("its way as the first", e.touch(5, 5, 5, 5, 101, 0, false), -2);
        T.due("its way as the second", e.touch(5, 5, 5, 5, 110, 0, false), -2);
        Edges.put(e, "gap");
        T.due("a text with a FAULT", e.read(), 1);
        T.due("away yet", e.wall(0, 5) + e.wall(2, 5), 0);
        e.stands(2, true);
        T.dueReturns(e, p(5, 5, 5, 5), 30, p(0, 0, 30, 0), p(12, 400, 30, 4), p(11, 600, 30, 6), p(112, 1000, 29, 10), p(121, 1000, 29, 10));
        T.due("blocked again", e.returns(5, 5, 12, 5, 30), 0);
        e.stands(0, false);
        e.stands(2, false);
        T.read(e, "wall a up 9 0 9 0;wall b up 2 0 9 0;wall c up 7 5 5 0;");
        T.due("the next text", e.wall(0, 5) + e.wall(1, 5) + e.wall(2, 5), 3);
    }

    // ---- promise 12

    private static void touchNumbers() {
        T.sentence("touches its k-th WALL (0, 1):");
        EchoValley e = null;
        int calls = 500;
        for (int number = -120; number <= 300; number++) {
            for (int k = -1; k <= 2; k++) {
                if (calls++ >= 400) {
                    e = T.valley(TEXT);
                    calls = 50;
                }
                boolean byOne = number >= 10 && number <= 12;
                boolean byTwo = number >= 100 && number < 130 && number % 10 <= 2 && (number - 100) / 10 != number % 10;
                boolean good = byOne && k == 0 || byTwo && (k == 0 || k == 1);
                T.due("NUMBER " + number + " k " + k, e.touch(3, 2, 5, 3, number, k, true) != NONE, good);
            }
        }
        e = T.valley(TEXT);
        for (int number : new int[] {1000, 1001, 1010, 10010, 256 + 10, 65536 + 10, Integer.MAX_VALUE, Integer.MIN_VALUE,
            Integer.MIN_VALUE + 10, Integer.MIN_VALUE + 101, -2147483638, -10, -101, 32 + 10, 74, 138, 165}) {
            T.due("NUMBER " + number, e.touch(3, 2, 5, 3, number, 0, false), NONE);
        }
        String eight = "map 9 9;" + Edges.many("wall w? up 1 1 1 1;", 8);
        e = T.valley(eight);
        T.due("the last one", e.touch(0, 0, 0, 0, 17, 0, true), -2);
        T.due("no ninth", e.touch(0, 0, 0, 0, 18, 0, true), NONE);
        T.due("the last ones", e.touch(0, 0, 0, 0, 176, 1, true), -2);
        T.due("no ninth", e.touch(0, 0, 0, 0, 187, 1, true), NONE);
        T.due("no ninth", e.touch(0, 0, 0, 0, 178, 1, true), NONE);
        T.due("no wall", new EchoValley().touch(0, 0, 0, 0, 10, 0, true), NONE);
    }

    private static void touchIsNone() {
        T.sentence("-2: there is no such WAY; NONE: no such ones.");
        int[] usual = {3, 2, 5, 3, 10, 0};
        int[] most = {8, 5, 8, 5};
        for (int i = 0; i < 4; i++) {
            T.range(TEXT, "touch", (e, a) -> e.touch(a[0], a[1], a[2], a[3], a[4], a[5], false), usual, i, 0, most[i]);
        }
        T.range(TEXT, "touch", (e, a) -> e.touch(a[0], a[1], a[2], a[3], a[4], a[5], true), usual, 4, 10, 12);
        T.range(TEXT, "touch", (e, a) -> e.touch(a[0], a[1], a[2], a[3], a[4], a[5], true), usual, 5, 0, 0);
        usual[4] = 102;
        T.range(TEXT, "touch", (e, a) -> e.touch(a[0], a[1], a[2], a[3], a[4], a[5], true), usual, 5, 0, 1);
        EchoValley e = T.valley("wall a up 5 0 9 0;wall b up 5 0 9 0;");
        T.due("no such way", e.touch(3, 3, 7, 3, 10, 0, true), -2);
        T.due("no such way, no second wall", e.touch(3, 3, 7, 3, 10, 1, true), NONE);
        T.due("no such way", e.touch(3, 3, 3, 3, 101, 1, true), -2);
        T.due("no such way, no such k", e.touch(3, 3, 3, 3, 101, 2, true), NONE);
        T.due("no such way, no such place", e.touch(3, 3, 20, 3, 101, 1, true), NONE);
        T.due("straight touches none", e.touch(3, 3, 3, 3, 0, 0, true), NONE);
    }

    private static void touchRounded() {
        T.sentence("x in thousandths, rounded down (high: y).");
        // By (10, 5 + 4 * 6 / 11), and so on: a fraction of elevenths, sevenths and thirds.
        way("wall a up 10 0 30 0;", p(4, 5, 5, 9), 10, 10000, 7181);
        way("wall a up 10 0 30 0;", p(4, 9, 5, 5), 10, 10000, 6818);
        way("wall a up 6 0 30 0;", p(4, 0, 2, 7), 10, 6000, 2333);
        way("wall a up 6 0 30 0;", p(2, 0, 4, 7), 10, 6000, 4666);
        way("wall a up 6 0 30 0;", p(4, 0, 2, 3), 10, 6000, 1000);
        way("wall a up 6 0 30 0;", p(5, 0, 0, 1), 10, 6000, 142);
        way("wall a up 99 0 99 0;", p(0, 38, 1, 39), 10, 99000, 38502);
        way("wall a up 99 0 99 0;", p(39, 0, 39, 1), 10, 99000, 500);
    }

    private static void touchNeedNotCome() {
        T.sentence("Where a WAY of a NUMBER from (x, y) to (u, v), which need not COME,");
        EchoValley e = T.valley("map 40 40;fall 1;wall a up 99 0 99 99;wall b flat 0 0 99 99;");
        T.due("it does not come", e.returns(0, 1, 0, 39, 99), 1);
        T.due("far and soft", e.touch(0, 0, 0, 39, 10, 0, true), 19500);
        T.due("off both", e.touch(9, 1, 0, 39, 110, 0, false), 13725);
        T.due("off both", e.touch(9, 1, 0, 39, 110, 1, false), 99000);
        T.due("off both", e.touch(9, 1, 0, 39, 110, 1, true), 18047);
    }
}
