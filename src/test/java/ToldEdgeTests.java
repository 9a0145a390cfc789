/** The edges of what is told and held: part IV of the document, and promises 28 to 37. */
public final class ToldEdgeTests {
    private static final Edges T = new Edges("ToldEdgeTests");
    private static final int NONE = EchoValley.NONE;
    private static final int MAX = Integer.MAX_VALUE;
    private static final int MIN = Integer.MIN_VALUE;
    /** Two walls, and a MAP that is wider than high. */
    private static final String TEXT = "map 9 6;wall a up 12 0 9 1;wall b flat 0 0 9 0;man m 1 1 9;ear e 2 2;bell o 0 0 3;";

    public static void main(String[] args) {
        if (run() != 0) {
            System.exit(1);
        }
    }

    static int run() {
        tellAsked();
        toldTimes();
        twentyEchoes();
        tellRefused();
        forgotten();
        forgetNone();
        hiddenAsked();
        hiddenAll();
        hiddenAtTheEdges();
        hiddenFromTo();
        hiddenSoft();
        hiddenKnown();
        hiddenAsTheyAreNow();
        hiddenBesidesEight();
        hiddenNothingComes();
        nextAsked();
        nextLeast();
        nextOfAlikeOnes();
        nextOnTheMap();
        nextByItsDefinition();
        nextNone();
        shoutAsked();
        twentyShouts();
        fittingAsked();
        fittingOnTheMap();
        fittingKnown();
        fogFirstReturn();
        fittingByYThenX();
        fittingAsTheyAreNow();
        stepAsked();
        stepOffTheMap();
        stepByTwo();
        stepByItsDefinition();
        stepOfAlikeOnes();
        stepNone();
        holdAsked();
        held();
        restoreRefused();
        staysThere();
        countAsked();
        countAll();
        askedInAnyOrder();
        return T.end();
    }

    // ---- promises 28 and 29

    private static void tellAsked() {
        T.sentence("An echo is TOLD: its number; NONE, and nothing happens: 20 are there, no such ones (time -2, or 0 and more).");
        int[] usual = {3, 2, 60, 100};
        int[] least = {0, 0, 1, 0};
        int[] most = {8, 5, 99, MAX};
        for (int i = 0; i < 3; i++) {
            T.range(TEXT, "tell", (e, a) -> e.tell(a[0], a[1], a[2], a[3]), usual, i, least[i], most[i]);
        }
        EchoValley e = T.valley(TEXT);
        int told = 0;
        for (int time : new int[] {0, 1, 2, 100, 9999, 10000, 1 << 20, MAX - 1, MAX, -2}) {
            T.due("time " + time, e.tell(3, 2, 60, time), told);
            told++;
        }
        for (int time : new int[] {-1, -3, -4, -100, MIN, MIN + 1, -256 - 2}) {
            T.due("time " + time, e.tell(3, 2, 60, time), NONE);
            T.due("echoes", e.count(9), told);
        }
    }

    private static void toldTimes() {
        T.sentence("the TIME of the first RETURN that is not straight (or -2: none comes);");
        EchoValley e = T.valley("map 9 9;fall 99;");
        e.tell(4, 4, 99, 400);
        T.due("400", e.hidden(1, -1), 4);
        for (int time : new int[] {399, 401, 0, 1, 200 + 65536, MAX}) {
            e.forget();
            e.tell(4, 4, 99, time);
            T.due("time " + time, e.hidden(1, -1), 0);
        }
        e.forget();
        e.tell(4, 4, 99, -2);
        // On its line nothing comes: of up and flat at 4 alone.
        T.due("none came", e.hidden(1, -1), 2);
        T.due("none came", e.hidden(1, 0), 4);
        T.due("none came", e.hidden(1, 1), 104);
    }

    private static void twentyEchoes() {
        T.sentence("20 at most, numbered from 0 on; KNOWN by k: the first k.");
        EchoValley e = T.valley(TEXT);
        for (int i = 0; i < 20; i++) {
            T.due("tell", e.tell(3, 2, 60, i), i);
            T.due("echoes", e.count(9), i + 1);
        }
        for (int i = 0; i < 3; i++) {
            T.due("a 21st", e.tell(3, 2, 60, 100), NONE);
            T.due("a 21st, and no such one", e.tell(9, 2, 60, 100), NONE);
            T.due("echoes", e.count(9), 20);
        }
        T.due("all are known", e.hidden(20, -1), 0);
        T.due("no 21st is", e.hidden(21, -1), NONE);
        T.due("a shout is no echo", e.shout(0, 0, 9, 9), 0);
        T.due("forget", e.forget(), 20);
        T.due("from 0 on again", e.tell(3, 2, 60, 100), 0);
    }

    private static void tellRefused() {
        T.sentence("NONE, and nothing happens: 20 are there, no such ones (time -2, or 0 and more).");
        EchoValley e = T.valley(TEXT);
        e.tell(1, 1, 99, 200);
        e.tell(8, 5, 99, 600);
        String before = Edges.state(e);
        int[][] odd = {{9, 0, 9, 9}, {0, 6, 9, 9}, {-1, 0, 9, 9}, {0, -1, 9, 9}, {0, 0, 0, 9}, {0, 0, 100, 9}, {0, 0, 9, -1}, {0, 0, 9, -3},
            {MIN, MIN, MIN, MIN}, {MAX, MAX, MAX, MAX}};
        for (int[] o : odd) {
            T.due("tell", e.tell(o[0], o[1], o[2], o[3]), NONE);
        }
        T.due("nothing happens", Edges.state(e), before);
        T.due("the next one", e.tell(0, 0, 9, 9), 2);
        // The twentieth stays what it was.
        EchoValley full = T.valley("map 9 9;fall 99;");
        for (int i = 0; i < 20; i++) {
            full.tell(4, 4, 99, 400);
        }
        full.tell(4, 4, 99, 401);
        T.due("the twenty", full.hidden(20, -1), 4);
    }

    private static void forgotten() {
        T.sentence("All that is TOLD (echoes and shouts) is forgotten: how many echoes there were.");
        EchoValley e = T.valley(TEXT);
        e.hold(1);
        String before = Edges.state(e);
        e.tell(0, 0, 9, 9);
        e.tell(0, 0, 9, 9);
        e.shout(0, 0, 9, 9);
        T.due("echoes, not shouts", e.forget(), 2);
        T.due("nothing is told, all else is there", Edges.state(e), before);
        e.shout(0, 0, 9, 9);
        e.shout(0, 0, 9, 9);
        T.due("no echo", e.forget(), 0);
        T.due("shouts", e.count(10), 0);
        T.due("from 0 on", e.shout(0, 0, 9, 9), 0);
        T.due("from 0 on", e.tell(0, 0, 9, 9), 0);
    }

    private static void forgetNone() {
        T.sentence("is forgotten: how many echoes there were.");
        EchoValley e = new EchoValley();
        T.due("none", e.forget(), 0);
        for (int i = 0; i < 20; i++) {
            e.tell(0, 0, 9, 9);
        }
        T.due("all", e.forget(), 20);
        T.due("none", e.forget(), 0);
        T.due("not known", e.hidden(1, -1), NONE);
        T.due("not known", e.fitting(1, -1), NONE);
    }

    // ---- promise 30

    private static void list(EchoValley e, int k, int... want) {
        T.due("how many", e.hidden(k, -1), want.length);
        for (int i = 0; i < want.length; i++) {
            T.due("the " + i + "-th", e.hidden(k, i), want[i]);
        }
        T.due("not so many", e.hidden(k, want.length), NONE);
    }

    private static void hiddenAsked() {
        T.sentence("HIDDEN, as KNOWN by k: how many (i NONE), else the i-th; NONE: no such ones, not so many.");
        EchoValley e = T.valley("map 9 9;fall 99;");
        for (int known = 0; known <= 3; known++) {
            for (int k = -2; k <= 5; k++) {
                T.due(known + " are told, k " + k, e.hidden(k, -1) != NONE, k >= 0 && k <= known);
            }
            T.due("k MAX", e.hidden(MAX, -1), NONE);
            T.due("k MIN", e.hidden(MIN, -1), NONE);
            e.tell(4, 4, 99, 400);
        }
        for (int i : new int[] {4, 5, 80, -2, -3, MAX, MIN, 256, 65536, 32}) {
            T.due("the " + i + "-th", e.hidden(1, i), NONE);
        }
        T.due("the last", e.hidden(1, 3), 106);
        e.tell(4, 4, 99, 401);
        T.due("none", e.hidden(5, -1), 0);
        T.due("not so many", e.hidden(5, 0), NONE);
    }

    private static void hiddenAll() {
        T.sentence("from 0 to 99, at c (0 .. 39),");
        EchoValley e = new EchoValley();
        T.due("all", e.hidden(0, -1), 80);
        for (int i = 0; i < 80; i++) {
            T.due("the " + i + "-th", e.hidden(0, i), i < 40 ? i : 60 + i);
        }
        T.due("the 80th", e.hidden(0, 80), NONE);
    }

    private static void hiddenAtTheEdges() {
        T.sentence("How many there are; which: c for up, 100 + c for flat, the least first.");
        int[][] want = {{39, 20, 38, 119, 121}, {38, 20, 37, 39, 119, 121}, {0, 20, 1, 119, 121}, {1, 20, 0, 2, 119, 121},
            {20, 39, 19, 21, 138}, {20, 38, 19, 21, 137, 139}, {20, 0, 19, 21, 101}, {20, 1, 19, 21, 100, 102}, {0, 0, 1, 101},
            {39, 39, 38, 138}};
        for (int[] w : want) {
            EchoValley e = T.valley("map 40 40;fall 99;");
            e.tell(w[0], w[1], 99, 200);
            list(e, 1, java.util.Arrays.copyOfRange(w, 2, w.length));
        }
        // Off the MAP, up to 39.
        EchoValley e = T.valley("map 2 3;fall 99;");
        e.tell(0, 0, 99, 7800);
        list(e, 1, 39, 139);
        e.tell(1, 2, 99, 7400);
        list(e, 2, 139);
        e.forget();
        e.tell(0, 0, 99, 8000);
        list(e, 1);
    }

    private static void hiddenFromTo() {
        T.sentence("HIDDEN: a WALL more, up or flat, SOFT 0, from 0 to 99,");
        // Up at 13 alone is 3 off from each of these, at the first y and at the last.
        EchoValley e = T.valley("map 40 40;fall 99;");
        e.tell(10, 0, 99, 600);
        e.tell(10, 39, 99, 600);
        e.tell(16, 20, 99, 600);
        list(e, 3, 13);
        e.forget();
        e.tell(0, 10, 99, 600);
        e.tell(39, 10, 99, 600);
        e.tell(20, 16, 99, 600);
        list(e, 3, 113);
        // It blocks what is behind it at the first and at the last place too.
        for (int place : new int[] {0, 39}) {
            e = T.valley("map 40 40;fall 99;wall w up 30 0 99 0;");
            e.tell(20, place, 99, 1000);
            T.due("five off, on either side", e.hidden(1, 0), 15);
            T.due("five off, on either side", e.hidden(1, 1), 25);
        }
    }

    private static void hiddenSoft() {
        T.sentence("SOFT 0, from 0 to 99,");
        EchoValley e = T.valley("map 9 9;fall 3;");
        e.tell(4, 4, 1, 200);
        list(e, 1, 3, 5, 103, 105);
        e.forget();
        // 4 long by 3 it is 1 less.
        e.tell(4, 4, 1, 400);
        list(e, 1);
        e.forget();
        e.tell(4, 4, 2, 400);
        list(e, 1, 2, 6, 102, 106);
    }

    private static void hiddenKnown() {
        T.sentence("so that all that is KNOWN is so.");
        EchoValley e = T.valley("map 9 9;fall 99;");
        e.tell(4, 4, 99, 400);
        e.tell(3, 4, 99, 200);
        e.tell(2, 4, 99, -2);
        e.tell(2, 3, 99, 1);
        T.due("none is known", e.hidden(0, -1), 80);
        list(e, 1, 2, 6, 102, 106);
        list(e, 2, 2);
        list(e, 3, 2);
        list(e, 4);
        T.due("none is known yet", e.hidden(0, -1), 80);
        // The wall is gone when it was looked for.
        T.due("nothing stands", e.returns(4, 4, 4, 4, 99), 1);
        T.due("nothing is counted", e.count(0), 0);
        T.due("nothing blocks", e.returns(1, 4, 8, 5, 99), 1);
    }

    private static void hiddenAsTheyAreNow() {
        T.sentence("with the WALLS and PACE as they are now, so that all that is KNOWN is so.");
        // w is 3 off: nearer ones are out, farther ones and those on the place's own lines stay.
        EchoValley e = T.valley("map 10 10;fall 99;wall w up 8 0 99 0;");
        e.hold(0);
        e.tell(5, 5, 99, 600);
        T.due("w is there", e.hidden(1, -1), 72);
        int[] some = {0, 1, 2, 5, 8, 9};
        for (int i = 0; i < some.length; i++) {
            T.due("w is there", e.hidden(1, i), some[i]);
        }
        e.stands(0, false);
        list(e, 1, 2, 8, 102, 108);
        e.pace(5);
        list(e, 1);
        e.pace(20);
        list(e, 1, 11, 111);
        e.restore(0);
        T.due("as it was held", e.hidden(1, -1), 72);
        e.move(0, 7);
        T.due("w is too near", e.hidden(1, -1), 0);
        e.move(0, 9);
        list(e, 1, 2, 8, 102, 108);
    }

    private static void hiddenBesidesEight() {
        T.sentence("HIDDEN: a WALL more,");
        EchoValley e = T.valley("map 9 9;fall 99;" + Edges.many("wall w? up 90 90 90 9;", 8));
        String before = Edges.state(e);
        e.tell(4, 4, 99, 400);
        list(e, 1, 2, 6, 102, 106);
        T.due("next", e.next(1, 99) >= 0, true);
        e.forget();
        T.due("the eight are as they were", Edges.state(e), before);
    }

    private static void hiddenNothingComes() {
        T.sentence("(or -2: none comes); 20 at most,");
        // Of loudness 1 by 10 nothing comes from 5 off on, nor off the place's own lines.
        EchoValley e = T.valley("map 10 10;");
        e.tell(5, 5, 1, -2);
        T.due("how many", e.hidden(1, -1), 64);
        int[] some = {0, 5, 10, 11};
        for (int i = 0; i < some.length; i++) {
            T.due("nothing came", e.hidden(1, i), some[i]);
        }
        T.due("the last", e.hidden(1, 63), 139);
        e.forget();
        e.tell(5, 5, 1, 800);
        list(e, 1, 1, 9, 101, 109);
        e.tell(5, 5, 1, 1000);
        T.due("4 off and no more", e.hidden(2, -1), 0);
    }

    // ---- promise 31

    private static void nextAsked() {
        T.sentence("NEXT: 100 * y + x; -2: there is no HIDDEN one; NONE: no such ones.");
        EchoValley e = T.valley("map 3 3;fall 99;");
        for (int known = 0; known <= 2; known++) {
            for (int k = -1; k <= 4; k++) {
                T.due(known + " are told, k " + k, e.next(k, 9) != NONE, k >= 0 && k <= known);
            }
            T.due("k MAX", e.next(MAX, 9), NONE);
            T.due("k MIN", e.next(MIN, 9), NONE);
            e.tell(1, 1, 99, 200);
        }
        T.range("map 3 3;", "next", (v, a) -> v.next(0, a[0]), new int[1], 0, 1, 99);
        T.range("map 1 1;", "next", (v, a) -> v.next(a[0], 9), new int[1], 0, 0, 0);
        T.due("on one place", T.valley("map 1 1;").next(0, 9), 0);
    }

    private static void nextLeast() {
        T.sentence("NEXT: the place of the MAP at which, with a loudness, the greatest number of HIDDEN ones that would give one and the same answer is least;");
        // Up at 0 and 2 and flat at 1: from 0 nothing comes, 400 and 200.
        EchoValley e = T.valley("map 3 1;fall 1;");
        e.tell(1, 0, 99, 200);
        list(e, 1, 0, 2, 101);
        T.due("all differ at 0", e.next(1, 99), 0);
        T.due("all differ at 0", e.next(1, 5), 0);
        // Flat at 1, and up at 5 and 7: at 6 all are alike.
        EchoValley f = T.valley("map 7 1;fall 99;");
        f.tell(6, 0, 99, 200);
        list(f, 1, 5, 7, 101);
        T.due("not where it was told", f.next(1, 99), 0);
        // From 4 off on nothing comes of loudness 7 by 1: 0 tells least then.
        EchoValley g = T.valley("map 7 1;fall 1;");
        g.tell(6, 0, 99, 200);
        T.due("of 7: up at 5 alone is near enough", g.next(1, 7), 2);
        T.due("of 3: two are alike everywhere", g.next(1, 3), 0);
        T.due("of 1: nothing comes anywhere", g.next(1, 1), 0);
    }

    private static void nextOfAlikeOnes() {
        T.sentence("of alike ones the first by y, then x. FOG:");
        EchoValley e = T.valley("map 10 10;");
        e.tell(5, 5, 99, 400);
        // 3, 7, 103 and 107; of loudness 1 at most one may be too far: at (4, 1) as at (1, 4).
        T.due("by y", e.next(1, 1), Edges.code(4, 1));
        // Of loudness 99 all four differ at (1, 0) as at (0, 1).
        T.due("then x", e.next(1, 99), Edges.code(1, 0));
        T.due("none is known: the first place is no worse", T.valley("map 1 9;").next(0, 99), 0);
        EchoValley one = T.valley("map 9 9;fall 99;");
        one.tell(0, 0, 99, 400);
        one.tell(1, 0, 99, 200);
        list(one, 2, 2);
        T.due("one alone", one.next(2, 99), 0);
    }

    /** Walls told, and one more that is not, on a MAP of 5 by 4. */
    private static final String COAST = "map 5 4;fall 2;wall a up 9 0 2 1;wall b flat 6 1 4 0;";

    /** By its definition: with each HIDDEN one told as a WALL more, what would be heard. */
    private static int nextByBeats(int[] hidden, int loud) {
        int best = -2;
        int least = MAX;
        for (int place = 0; place < 20; place++) {
            java.util.Map<Integer, Integer> many = new java.util.HashMap<>();
            int greatest = 0;
            for (int code : hidden) {
                EchoValley e = T.valley(COAST + "wall z" + (code < 100 ? " up " : " flat ") + code % 100 + " 0 99 0;");
                greatest = Math.max(greatest, many.merge(e.beats(place % 5, place / 5, loud, 1), 1, Integer::sum));
            }
            if (greatest > 0 && greatest < least) {
                least = greatest;
                best = Edges.code(place % 5, place / 5);
            }
        }
        return best;
    }

    private static void nextByItsDefinition() {
        T.sentence("the greatest number of HIDDEN ones that would give one and the same answer is least;");
        EchoValley e = T.valley(COAST);
        int[][] told = {{1, 1, 60, 400}, {4, 3, 60, 600}, {2, 1, 60, -2}, {0, 3, 5, 600}, {3, 2, 60, 200}};
        for (int[] t : told) {
            e.forget();
            e.tell(t[0], t[1], t[2], t[3]);
            int[] hidden = new int[e.hidden(1, -1)];
            for (int i = 0; i < hidden.length; i++) {
                hidden[i] = e.hidden(1, i);
            }
            for (int loud : new int[] {1, 4, 9, 99}) {
                T.due("behind " + java.util.Arrays.toString(t) + " of " + loud, e.next(1, loud), nextByBeats(hidden, loud));
            }
        }
        int[] all = new int[80];
        for (int i = 0; i < 80; i++) {
            all[i] = i < 40 ? i : 60 + i;
        }
        for (int loud : new int[] {3, 20}) {
            T.due("none is known, of " + loud, e.next(0, loud), nextByBeats(all, loud));
        }
    }

    private static void nextOnTheMap() {
        T.sentence("NEXT: the place of the MAP at which,");
        // Up and flat at 2: beside the one place there is they would not be alike.
        EchoValley one = T.valley("map 1 1;fall 99;");
        one.tell(0, 0, 99, 400);
        list(one, 1, 2, 102);
        T.due("on one place", one.next(1, 99), 0);
        EchoValley wide = T.valley("map 2 1;fall 99;");
        wide.tell(0, 0, 99, 400);
        T.due("aside", wide.next(1, 99), 1);
        EchoValley high = T.valley("map 1 2;fall 99;");
        high.tell(0, 0, 99, 400);
        T.due("below", high.next(1, 99), 100);
        // 3 and 103 are told apart in the last y alone, of loudness 1 by 4: there flat is near enough.
        EchoValley far = T.valley("map 1 3;fall 4;");
        far.tell(0, 0, 99, 600);
        list(far, 1, 3, 103);
        T.due("higher than wide", far.next(1, 1), 200);
        EchoValley aside = T.valley("map 3 1;fall 4;");
        aside.tell(0, 0, 99, 600);
        T.due("wider than high", aside.next(1, 1), 2);
    }

    private static void nextNone() {
        T.sentence("-2: there is no HIDDEN one;");
        EchoValley e = T.valley("map 3 3;fall 99;");
        e.tell(1, 1, 99, 201);
        T.due("none", e.next(1, 99), -2);
        T.due("fewer are known", e.next(0, 99) >= 0, true);
        T.due("none, and no such loudness", e.next(1, 0), NONE);
        T.due("none, and no such loudness", e.next(1, 100), NONE);
        T.due("more than are told", e.next(2, 99), NONE);
        T.due("nothing stands", e.returns(1, 1, 1, 1, 99), 1);
    }

    // ---- promise 32

    private static void shoutAsked() {
        T.sentence("A shout in FOG (dx, dy -40 .. 40, loudness, time): its number; NONE, and nothing happens: 20 are there, no such ones.");
        int[] usual = {3, 2, 60, 100};
        int[] least = {-40, -40, 1};
        int[] most = {40, 40, 99};
        for (int i = 0; i < 3; i++) {
            T.range(TEXT, "shout", (e, a) -> e.shout(a[0], a[1], a[2], a[3]), usual, i, least[i], most[i]);
        }
        EchoValley e = T.valley(TEXT);
        e.shout(0, 0, 9, 9);
        int told = 1;
        for (int time : new int[] {0, 1, 100, 9999, MAX, -2}) {
            T.due("time " + time, e.shout(3, 2, 60, time), told);
            told++;
        }
        String before = Edges.state(e);
        int[][] odd = {{41, 0, 9, 9}, {-41, 0, 9, 9}, {0, 41, 9, 9}, {0, -41, 9, 9}, {0, 0, 0, 9}, {0, 0, 100, 9}, {0, 0, 9, -1},
            {0, 0, 9, -3}, {0, 0, 9, MIN}, {MIN, MIN, MIN, MIN}, {MAX, MAX, MAX, MAX}};
        for (int[] o : odd) {
            T.due("shout", e.shout(o[0], o[1], o[2], o[3]), NONE);
        }
        T.due("nothing happens", Edges.state(e), before);
    }

    private static void twentyShouts() {
        T.sentence("20 shouts at most, as KNOWN by k (the first k of the shouts),");
        EchoValley e = T.valley("map 2 2;");
        for (int i = 0; i < 20; i++) {
            T.due("shout", e.shout(0, 0, 60, i == 19 ? 5 : -2), i);
            T.due("shouts", e.count(10), i + 1);
        }
        for (int i = 0; i < 3; i++) {
            T.due("a 21st", e.shout(0, 0, 60, -2), NONE);
            T.due("a 21st, and no such one", e.shout(41, 0, 60, -2), NONE);
            T.due("shouts", e.count(10), 20);
        }
        T.due("19 are known", e.fitting(19, -1), 4);
        T.due("all are known", e.fitting(20, -1), 0);
        T.due("no 21st is", e.fitting(21, -1), NONE);
        T.due("an echo is no shout", e.tell(0, 0, 9, 9), 0);
        T.due("forget", e.forget(), 1);
        T.due("from 0 on again", e.shout(0, 0, 9, 9), 0);
    }

    // ---- promise 33

    private static void fittingAsked() {
        T.sentence("FITTING, as KNOWN by k: how many (i NONE), else the i-th by y, then x: 100 * y + x; NONE: no such ones, not so many.");
        EchoValley e = T.valley("map 4 3;");
        for (int known = 0; known <= 2; known++) {
            for (int k = -2; k <= 4; k++) {
                T.due(known + " are told, k " + k, e.fitting(k, -1) != NONE, k >= 0 && k <= known);
            }
            T.due("k MAX", e.fitting(MAX, -1), NONE);
            T.due("k MIN", e.fitting(MIN, -1), NONE);
            e.shout(0, 0, 99, -2);
        }
        for (int i = 0; i < 12; i++) {
            T.due("the " + i + "-th", e.fitting(1, i), Edges.code(i % 4, i / 4));
        }
        for (int i : new int[] {12, 13, 1600, -2, -3, MAX, MIN, 256, 65536}) {
            T.due("the " + i + "-th", e.fitting(1, i), NONE);
        }
        e.shout(0, 0, 99, 1);
        T.due("none", e.fitting(4, -1), 0);
        T.due("not so many", e.fitting(4, 0), NONE);
        EchoValley great = T.valley("map 40 40;");
        T.due("all of the greatest", great.fitting(0, -1), 1600);
        T.due("the last", great.fitting(0, 1599), Edges.code(39, 39));
        T.due("behind the last", great.fitting(0, 1600), NONE);
    }

    private static void fittingOnTheMap() {
        T.sentence("FITTING: places of the MAP at which he may have begun: all his shouts lie on the MAP and are so;");
        // Nothing comes anywhere; what is off the MAP does not fit for all that.
        int[][] due = {{0, 0, 20, 0}, {-1, 0, 16, 1}, {1, 0, 16, 0}, {0, -1, 15, 100}, {0, 1, 15, 0}, {4, 3, 1, 0}, {-4, -3, 1, 304},
            {4, -3, 1, 300}, {-4, 3, 1, 4}, {5, 0, 0, -1}, {-5, 0, 0, -1}, {0, 4, 0, -1}, {0, -4, 0, -1}, {40, 40, 0, -1}, {-40, -40, 0, -1}};
        for (int[] d : due) {
            EchoValley e = T.valley("map 5 4;");
            e.shout(d[0], d[1], 99, -2);
            T.due("by " + d[0] + " " + d[1], e.fitting(1, -1), d[2]);
            T.due("by " + d[0] + " " + d[1], e.fitting(1, 0), d[3]);
        }
        EchoValley great = T.valley("map 40 40;");
        great.shout(39, 39, 99, -2);
        T.due("from edge to edge", great.fitting(1, -1), 1);
        great.shout(40, 39, 99, -2);
        T.due("over the edge", great.fitting(2, -1), 0);
        // All of his shouts: one that lies off the MAP is enough.
        EchoValley e = T.valley("map 5 4;");
        e.shout(-1, 0, 99, -2);
        e.shout(1, 0, 99, -2);
        e.shout(0, 1, 99, -2);
        T.due("both sides", e.fitting(2, -1), 12);
        T.due("and below", e.fitting(3, -1), 9);
        T.due("the first", e.fitting(3, 0), 1);
        T.due("the last", e.fitting(3, 8), Edges.code(3, 2));
    }

    private static void fittingKnown() {
        T.sentence("at his i-th shout he is at his beginning and (dx, dy) told for it:");
        // 1000, 800, 600, 400, 200, and on the wall none.
        EchoValley e = T.valley("map 6 1;fall 99;wall w up 5 0 9 0;");
        e.shout(0, 0, 99, 600);
        e.shout(2, 0, 99, 200);
        e.shout(3, 0, 99, -2);
        e.shout(-2, 0, 99, 1000);
        e.shout(1, 0, 99, 401);
        for (int k = 1; k <= 4; k++) {
            T.due("k " + k, e.fitting(k, -1), 1);
            T.due("k " + k, e.fitting(k, 0), 2);
        }
        T.due("not so", e.fitting(5, -1), 0);
        T.due("none is known", e.fitting(0, -1), 6);
        e.forget();
        for (int time : new int[] {599, 601, 0, 100}) {
            e.shout(0, 0, 99, time);
            T.due("time " + time, e.fitting(1, -1), 0);
            e.forget();
        }
        // The loudness that is told: of 1 by 99 all come; by 1 only what is less than 3 long.
        EchoValley low = T.valley("map 6 1;fall 1;wall w up 5 0 9 0;");
        low.shout(0, 0, 3, -2);
        T.due("of 3", low.fitting(1, -1), 5);
        low.shout(0, 0, 5, -2);
        T.due("of 5", low.fitting(2, -1), 4);
        low.shout(0, 0, 2, -2);
        T.due("of 2 nothing comes", low.fitting(3, -1), 4);
    }

    private static void fogFirstReturn() {
        T.sentence("the TIME of the first RETURN that is not straight (or -2). FITTING:");
        // In x 0 .. 6 it is 1400 .. 200 to b at 7, and 200 .. 1400 to a behind.
        EchoValley e = T.valley("map 7 1;fall 99;wall b up 7 0 0 0;");
        int[] times = {200, 400, 600, 1400, 0, 199, 201, 1600, -2, MAX};
        int[] due = {6, 5, 4, 0, NONE, NONE, NONE, NONE, NONE, NONE};
        for (int i = 0; i < times.length; i++) {
            e.forget();
            T.due("shout", e.shout(0, 0, 99, times[i]), 0);
            T.due("at " + times[i], e.fitting(1, 0), due[i]);
            T.due("how many at " + times[i], e.fitting(1, -1), due[i] < 0 ? 0 : 1);
        }
        // The nearer of two walls; none of their places hears the farther one first.
        e = T.valley("map 8 1;fall 99;wall a up 0 0 0 0;wall b up 8 0 0 0;");
        int[] many = {2, 2, 2, 1, 0};
        for (int i = 1; i <= 5; i++) {
            e.forget();
            e.shout(0, 0, 99, 200 * i);
            T.due("at " + 200 * i, e.fitting(1, -1), many[i - 1]);
        }
        e.forget();
        e.shout(0, 0, 99, 1600);
        T.due("on a's line b is heard", e.fitting(1, 0), 0);
    }

    private static void fittingByYThenX() {
        T.sentence("else the i-th by y, then x: 100 * y + x;");
        EchoValley e = T.valley("map 6 4;fall 99;wall w flat 9 2 3 0;wall v up 9 3 3 0;");
        e.shout(0, 0, 99, 1800);
        T.due("how many", e.fitting(1, -1), 3);
        T.due("the first", e.fitting(1, 0), Edges.code(2, 0));
        T.due("the second", e.fitting(1, 1), Edges.code(3, 0));
        T.due("the last", e.fitting(1, 2), Edges.code(0, 3));
        T.due("not so many", e.fitting(1, 3), NONE);
    }

    private static void fittingAsTheyAreNow() {
        T.sentence("with the WALLS and PACE as they are now. STEP:");
        EchoValley e = T.valley("map 6 1;fall 99;wall w up 5 0 9 0;");
        e.hold(2);
        e.shout(0, 0, 99, 600);
        T.due("at 2", e.fitting(1, 0), 2);
        e.move(0, 4);
        T.due("moved", e.fitting(1, 0), 1);
        e.pace(5);
        T.due("another PACE", e.fitting(1, -1), 0);
        e.restore(2);
        T.due("as it was held", e.fitting(1, 0), 2);
        e.stands(0, false);
        T.due("taken away", e.fitting(1, -1), 0);
        e.stands(0, true);
        T.due("put up", e.fitting(1, -1), 1);
    }

    // ---- promise 34

    private static void stepAsked() {
        T.sentence("STEP, as KNOWN by k: 100 * (dy + 2) + dx + 2; -2: nothing FITS; NONE: no such ones.");
        EchoValley e = T.valley("map 4 3;");
        for (int known = 0; known <= 2; known++) {
            for (int k = -1; k <= 4; k++) {
                T.due(known + " are told, k " + k, e.step(k, 9) != NONE, k >= 0 && k <= known);
            }
            T.due("k MAX", e.step(MAX, 9), NONE);
            T.due("k MIN", e.step(MIN, 9), NONE);
            e.shout(0, 0, 99, -2);
        }
        T.range("map 4 3;", "step", (v, a) -> v.step(0, a[0]), new int[1], 0, 1, 99);
        T.due("on one place", T.valley("map 1 1;").step(0, 9), 0);
    }

    private static void stepOffTheMap() {
        T.sentence("(off the MAP is an answer)");
        // By one to the left all answers differ: off the MAP, 1000, 800, 600, 400, 200.
        EchoValley e = T.valley("map 6 1;fall 99;wall w up 5 0 9 0;");
        T.due("one is off the MAP", e.step(0, 50), 201);
        // Off the MAP is not what is told where none comes.
        e = T.valley("map 6 1;fall 99;wall w up 0 0 9 0;");
        T.due("off the MAP, and none comes", e.step(0, 50), 201);
        e = T.valley("map 1 6;fall 99;wall w flat 0 0 9 0;");
        T.due("off the MAP, and none comes", e.step(0, 50), 102);
        // Nothing comes anywhere: by one aslant 5 of 9 are off the MAP, by one straight on 3, by two 6 and more.
        e = T.valley("map 3 3;");
        T.due("5 and 4 are the best", e.step(0, 1), 101);
    }

    private static void stepByTwo() {
        T.sentence("STEP: of all (dx, dy), -2 .. 2 each, told from his beginning,");
        // Begun at 0 .. 3; 4 and more would hear a loudness of 12 by 1 off a wall at 9, 3 and more one of 14.
        String[] right = {"map 8 1;fall 1;wall w up 9 0 0 0;", "map 1 8;fall 1;wall w flat 9 0 0 0;"};
        int[] by14 = {204, 402};
        int[] by12 = {200, 2};
        for (int i = 0; i < 2; i++) {
            EchoValley e = T.valley(right[i]);
            e.shout(0, 0, 12, -2);
            T.due("begun", e.fitting(1, -1), 4);
            T.due("by two ahead", e.step(1, 14), by14[i]);
            T.due("no farther than two", e.step(1, 12), by12[i]);
        }
        // Begun at 0 and 5 .. 8: by three back would be no worse than by two ahead.
        String[] left = {"map 9 1;fall 1;wall w up 0 0 0 0;", "map 1 9;fall 1;wall w flat 0 0 0 0;"};
        int[] by8 = {204, 402};
        for (int i = 0; i < 2; i++) {
            EchoValley e = T.valley(left[i]);
            e.shout(0, 0, 10, -2);
            T.due("begun", e.fitting(1, -1), 5);
            T.due("no farther than two", e.step(1, 8), by8[i]);
        }
    }

    private static void stepByItsDefinition() {
        T.sentence("that by which the greatest number of FITTING places that would give one and the same answer (off the MAP is an answer) is least;");
        String[] texts = {COAST, "map 9 8;fall 3;wall a up 12 0 4 0;wall b flat 0 2 8 1;wall c up 4 6 6 0;",
            "map 7 9;fall 1;wall a flat 14 0 9 0;wall b flat 3 2 4 0;wall c up 0 5 9 2;",
            "map 19 21;fall 4;wall a up 24 0 13 0;wall b flat 30 0 11 0;wall c up 0 11 19 3;wall d flat 0 15 19 2;wall f up 9 4 7 1;",
            "map 21 13;fall 7;pace 7;wall a up 2 0 4 0;wall b flat 14 3 14 0;wall c up 28 8 12 0;wall d flat 6 9 18 1;"};
        for (String text : texts) {
            for (int k = 0; k <= 2; k++) {
                for (int loud : new int[] {2, 5, 9, 60}) {
                    EchoValley e = T.valley(text);
                    e.shout(1, 0, 60, e.beats(3, 2, 60, 1));
                    e.shout(0, 1, 9, -2);
                    T.due(text + " k " + k + " of " + loud, e.step(k, loud), stepByAlong(text, e, k, loud));
                }
            }
        }
    }

    /** By its definition: what is heard two places on at the most, from each place that FITS. */
    private static int stepByAlong(String text, EchoValley e, int k, int loud) {
        int best = -2;
        int least = MAX;
        int[] begun = new int[e.fitting(k, -1)];
        for (int i = 0; i < begun.length; i++) {
            begun[i] = e.fitting(k, i);
        }
        for (int step = 0; step < 25; step++) {
            EchoValley asked = T.valley(text);
            java.util.Map<Integer, Integer> many = new java.util.HashMap<>();
            int greatest = 0;
            for (int code : begun) {
                int answer = asked.along(code % 100, code / 100, step % 5 - 2, step / 5 - 2, loud, 1);
                greatest = Math.max(greatest, many.merge(answer, 1, Integer::sum));
            }
            if (greatest > 0 && greatest < least) {
                least = greatest;
                best = 100 * (step / 5) + step % 5;
            }
        }
        return best;
    }

    private static void stepOfAlikeOnes() {
        T.sentence("is least; of alike ones the least dy, then dx. Where NONE and -2");
        EchoValley e = T.valley("map 6 1;fall 99;wall w up 5 0 9 0;");
        e.shout(0, 0, 99, 600);
        T.due("one alone", e.step(1, 50), 0);
        // Begun at (0, 0) .. (1, 1): by one up or down, or aside, half of them are off the MAP.
        e = T.valley("map 3 3;");
        e.shout(1, 1, 9, -2);
        T.due("the least dy", e.step(1, 50), 102);
        e = T.valley("map 3 3;fall 1;wall a up 9 0 1 0;wall b flat 9 0 0 0;");
        T.due("three alike", e.step(0, 99), 102);
    }

    private static void stepNone() {
        T.sentence("-2: nothing FITS; NONE: no such ones. ## Promise 35");
        EchoValley e = T.valley("map 4 3;");
        e.shout(0, 0, 99, 1);
        e.shout(0, 0, 99, -2);
        T.due("nothing fits", e.step(1, 50), -2);
        T.due("nothing fits", e.step(2, 50), -2);
        T.due("fewer are known", e.step(0, 50) >= 0, true);
        T.due("nothing fits, and no such loudness", e.step(1, 0), NONE);
        T.due("nothing fits, and no such loudness", e.step(1, 100), NONE);
        T.due("more than are told", e.step(3, 50), NONE);
    }

    // ---- promises 35 and 36

    private static void holdAsked() {
        T.sentence("WALLS (where, whether there) and PACE are held in a SLOT (0 .. 2): true; false: no such one.");
        T.range(TEXT, "hold", (e, a) -> e.hold(a[0]) ? 1 : NONE, new int[1], 0, 0, 2);
        EchoValley e = T.valley(TEXT);
        for (int slot : new int[] {3, -1, 4, 32, 256, MAX, MIN}) {
            T.due("hold " + slot, e.hold(slot), false);
            T.due("slots", e.count(12), 0);
        }
        int[] order = {2, 0, 2, 1, 0};
        int[] many = {1, 2, 2, 3, 3};
        for (int i = 0; i < order.length; i++) {
            T.due("hold", e.hold(order[i]), true);
            T.due("slots", e.count(12), many[i]);
        }
        EchoValley none = new EchoValley();
        none.pace(7);
        T.due("PACE alone", none.hold(1), true);
        none.pace(9);
        T.due("PACE alone", none.restore(1), true);
        T.due("PACE", none.count(6), 7);
    }

    private static void held() {
        T.sentence("They go on from what a SLOT holds (that stays there):");
        StringBuilder text = new StringBuilder("map 9 9;fall 9;gap 9;pace 9;");
        for (int i = 0; i < 8; i++) {
            text.append("wall w").append((char) ('a' + i)).append(i % 2 == 0 ? " up " : " flat ").append(10 + i).append(" 1 20 3;");
        }
        EchoValley e = T.valley(text.toString());
        e.stands(0, false);
        e.stands(7, false);
        e.hold(0);
        for (int i = 0; i < 8; i++) {
            e.stands(i, i == 0);
            e.move(i, 99 - i);
        }
        e.pace(99);
        e.hold(2);
        e.tell(1, 1, 9, 9);
        e.shout(1, 1, 9, 9);
        for (int turn = 0; turn < 2; turn++) {
            T.due("restore", e.restore(0), true);
            for (int i = 0; i < 8; i++) {
                T.due("where " + i, e.wall(i, 1), 10 + i);
                T.due("there " + i, e.wall(i, 5), i == 0 || i == 7 ? 0 : 1);
                T.due("flat " + i, e.wall(i, 0), i % 2);
                T.due("from, to and SOFT " + i, 10000 * e.wall(i, 2) + 100 * e.wall(i, 3) + e.wall(i, 4), 12003);
            }
            T.due("PACE", e.count(6), 9);
            T.due("restore", e.restore(2), true);
            for (int i = 0; i < 8; i++) {
                T.due("where " + i, e.wall(i, 1), 99 - i);
                T.due("there " + i, e.wall(i, 5), i == 0 ? 1 : 0);
            }
            T.due("PACE", e.count(6), 99);
            T.due("what is TOLD stays", 10 * e.count(9) + e.count(10), 11);
            T.due("slots", e.count(12), 2);
        }
    }

    private static void restoreRefused() {
        T.sentence("true; false, and nothing happens: no such one, nothing is held.");
        EchoValley e = T.valley(TEXT);
        e.hold(1);
        e.move(0, 5);
        e.stands(1, false);
        e.pace(77);
        e.tell(1, 1, 9, 9);
        String before = Edges.state(e);
        for (int slot : new int[] {0, 2, 3, -1, 32 + 1, 256 + 1, MAX, MIN, MIN + 1}) {
            T.due("restore " + slot, e.restore(slot), false);
        }
        T.due("nothing happens", Edges.state(e), before);
        T.due("slot 1", e.restore(1), true);
        T.due("where", e.wall(0, 1), 12);
        T.due("there", e.wall(1, 5), 1);
        T.due("PACE", e.count(6), 10);
        for (int slot = 0; slot < 3; slot++) {
            T.due("nothing is held by a new one", new EchoValley().restore(slot), false);
        }
    }

    private static void staysThere() {
        T.sentence("(that stays there)");
        EchoValley e = T.valley(TEXT);
        e.hold(0);
        for (int i = 0; i < 4; i++) {
            e.move(0, 20 + i);
            e.pace(30 + i);
            e.stands(0, false);
            T.due("restore", e.restore(0), true);
            T.due("where", e.wall(0, 1), 12);
            T.due("there", e.wall(0, 5), 1);
            T.due("PACE", e.count(6), 10);
        }
        e.move(0, 50);
        T.due("held anew", e.hold(0), true);
        e.move(0, 51);
        e.restore(0);
        T.due("where", e.wall(0, 1), 50);
        // A wall may be away in the slot, and be put up behind it.
        e.stands(1, false);
        e.hold(0);
        e.stands(1, true);
        e.restore(0);
        T.due("away", e.wall(1, 5), 0);
        e.stands(1, true);
        T.due("put up", e.wall(1, 5), 1);
    }

    // ---- promise 37

    private static void countAsked() {
        T.sentence("12 SLOTS that hold something. NONE for others.");
        T.range(TEXT, "count", (e, a) -> e.count(a[0]), new int[1], 0, 0, 12);
        T.range("", "count", (e, a) -> e.count(a[0]), new int[1], 0, 0, 12);
    }

    private static void countAll() {
        T.sentence("0 WALLS, 1 MEN, 2 EARS, 3 BELLS, 4 WIDE, 5 HIGH, 6 PACE, 7 FALL, 8 GAP, 9 echoes TOLD, 10 shouts TOLD, 11 bytes on the tape,");
        String full = Edges.many("wall w? up 1 1 1 1;", 8) + Edges.many("man m? 1 1 1;", 6) + Edges.many("ear e? 1 1;", 6)
            + Edges.many("bell b? 1 1 1;", 6);
        EchoValley e = T.valley(full + "map 40 39;pace 99;fall 98;gap 9999;");
        for (int i = 0; i < 21; i++) {
            e.tell(0, 0, 9, 9);
            e.shout(0, 0, 9, 9);
        }
        for (int slot = 0; slot < 4; slot++) {
            e.hold(slot);
        }
        Edges.put(e, Edges.blanks(2000));
        e.stands(0, false);
        int[] most = {8, 6, 6, 6, 40, 39, 99, 98, 9999, 20, 20, 2000, 3};
        for (int what = 0; what < most.length; what++) {
            T.due("count " + what, e.count(what), most[what]);
        }
        e = T.valley("map 1 2;pace 1;fall 2;gap 0;ear e 0 0;");
        int[] least = {0, 0, 1, 0, 1, 2, 1, 2, 0, 0, 0, 0, 0};
        for (int what = 0; what < least.length; what++) {
            T.due("count " + what, e.count(what), least[what]);
        }
    }

    // ---- what asks alone

    private static final Edges.Call[] QUESTIONS = {
        (e, a) -> e.next(0, 3), (e, a) -> e.next(1, 60), (e, a) -> e.next(2, 9), (e, a) -> e.step(0, 60), (e, a) -> e.step(1, 9),
        (e, a) -> e.step(2, 60), (e, a) -> e.hidden(0, 79), (e, a) -> e.hidden(1, 3), (e, a) -> e.hidden(2, -1), (e, a) -> e.fitting(0, 53),
        (e, a) -> e.fitting(1, -1), (e, a) -> e.fitting(2, 0), (e, a) -> e.returns(3, 2, 5, 3, 60), (e, a) -> e.returns(3, 2, 5, 3, 2),
        (e, a) -> e.at(3, 2, 5, 3, 60, 3, 0), (e, a) -> e.at(8, 5, 0, 0, 9, 0, 1), (e, a) -> e.touch(3, 2, 5, 3, 101, 1, false),
        (e, a) -> e.touch(3, 2, 5, 3, 10, 0, true), (e, a) -> e.heard(0, 0), (e, a) -> e.heard(1, 0), (e, a) -> e.drowned(0, 0),
        (e, a) -> e.drowned(1, 0), (e, a) -> e.beats(3, 2, 60, 100), (e, a) -> e.stand(3, 60, 100, 0), (e, a) -> e.stand(0, 1, 1, 1),
        (e, a) -> e.deaf(0, 0), (e, a) -> e.deaf(1, 1), (e, a) -> e.louder(0, 55), (e, a) -> e.canon(3, 2, 60, 100, 30),
        (e, a) -> e.canon(3, 2, 1, 50, 99), (e, a) -> e.canon(3, 2, 60, 9999, 1), (e, a) -> e.put(0, 0, 0, 0), (e, a) -> e.put(1, 1, 0, 1),
        (e, a) -> e.hush(0, 0), (e, a) -> e.hush(1, 0), (e, a) -> e.whose(0, 223), (e, a) -> e.along(3, 2, 1, 1, 60, 1),
        (e, a) -> e.nearest(3, 2, 1, 0, 60, 9), (e, a) -> e.first(8, 5, 1), (e, a) -> e.cross(0, 1, 300, 0), (e, a) -> e.cross(1, 0, 9, 1),
        (e, a) -> e.chirp(7, 3, 2), (e, a) -> e.wall(1, 1), (e, a) -> e.count(9), (e, a) -> e.place()};

    private static EchoValley asked() {
        EchoValley e = T.valley("map 9 6;wall a up 12 0 9 1;wall b flat 0 0 9 0;wall c up 0 0 9 2;man m 3 2 60;man n 4 4 1;ear e 5 3;"
            + "bell o 1 1 5;bell p 8 5 0;fall 3;");
        e.tell(4, 3, 60, 400);
        e.tell(3, 3, 60, 200);
        e.shout(0, 0, 60, 600);
        e.shout(0, 1, 60, 800);
        return e;
    }

    private static void askedInAnyOrder() {
        T.sentence("Nothing is promised beyond the answers and state changes described above,");
        EchoValley down = asked();
        EchoValley up = asked();
        EchoValley pairs = asked();
        int n = QUESTIONS.length;
        for (int i = 0; i < n; i++) {
            T.due("question " + i, QUESTIONS[i].of(down, null), QUESTIONS[i].of(asked(), null));
            T.due("question " + (n - 1 - i), QUESTIONS[n - 1 - i].of(up, null), QUESTIONS[n - 1 - i].of(asked(), null));
            int far = i * 17 % n;
            T.due("question " + far, QUESTIONS[far].of(pairs, null), QUESTIONS[far].of(asked(), null));
            T.due("question " + far + " again", QUESTIONS[far].of(pairs, null), QUESTIONS[far].of(pairs, null));
        }
        T.due("nothing is changed", Edges.state(down), Edges.state(asked()));
    }
}
