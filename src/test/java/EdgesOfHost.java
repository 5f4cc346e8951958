/** Promises 26 to 34: plans by lots, images, the host. */
final class EdgesOfHost {
    private static final int P = Rings.P, L = Rings.L;

    private EdgesOfHost() {
    }

    private static void due(String call, long got, long want) {
        Edge.due(call, got, want);
    }

    static void all() {
        drawn();
        drawnRefused();
        odds();
        oddsNone();
        image();
        back();
        sheet();
        sheetRefused();
        cell();
        cellOfSorts();
        cellRefused();
        copy();
        copyRefused();
        menBy();
        menByRefused();
        taken();
        takenRefused();
    }

    // ---- promises 26, 27

    private static long lot(int seed, int number) {
        long lot = seed + 1;
        for (int i = 0; i < number; i++) {
            lot = lot * 48271 % 2147483647;
        }
        return lot % 262144;
    }

    private static int byLots(RingOfStraw x, int seed, int twoMen, int what) {
        return x.bout(twoMen, (int) lot(seed, 1), (int) lot(seed, 2), what);
    }

    private static void drawn() {
        Edge.of(26, "PLANS by a SEED: ");
        RingOfStraw x = Rings.of("force act ; stands 1 ; ahead 0 ;", 0, 0, 0);
        for (int seed : new int[] {0, 1, 2, 44487, 44488, 99998, 99999}) {
            due("who by " + seed, x.drawn(seed, 0, 1, 0), byLots(x, seed, 1, 0));
            due("seconds by " + seed, x.drawn(seed, 0, 1, 1), byLots(x, seed, 1, 1));
            due("who by " + seed, x.drawn(seed, 2, 1, 0), byLots(x, seed, 21, 0));
        }
        Edge.of(26, "who WINS (what 0; -1: nobody), ");
        RingOfStraw bull = Rings.of("force 0 ; stands 0 ; ahead 0 ;", 0, 0);
        bull.man(30, 0);
        due("nobody", bull.drawn(5, 0, 1, 0), -1);
        due("the one", bull.drawn(5, 2, 1, 0), 2);
        due("the other one", bull.drawn(5, 1, 2, 0), 2);
        Edge.of(26, "SECONDS (1). ");
        due("nine", bull.drawn(5, 0, 1, 1), 9);
        due("nine", bull.drawn(5, 1, 0, 1), 9);
        for (int seed = 0; seed < 20; seed++) {
            due("seconds by " + seed, x.drawn(seed, 1, 2, 1), byLots(x, seed, 12, 1));
        }
        for (int m = 0; m < 3; m++) {
            Rings.knee(x, m, 0, 0, 0);
        }
    }

    private static void drawnRefused() {
        RingOfStraw x = Rings.by("1", 0, 0);
        Edge.of(26, "-5: no such two; ");
        for (int none : new int[] {-1, 2, 5, 6, Integer.MIN_VALUE, Integer.MAX_VALUE}) {
            due("the one " + none, x.drawn(0, none, 0, 0), -5);
            due("the other one " + none, x.drawn(0, 1, none, 0), -5);
            due("ahead of -7", x.drawn(-1, none, 0, 2), -5);
        }
        due("the same", x.drawn(0, 1, 1, 0), -5);
        Edge.of(26, "-7: SEED, what.");
        for (int seed : new int[] {-1, 100000, 100001, Integer.MIN_VALUE, Integer.MAX_VALUE}) {
            due("SEED " + seed, x.drawn(seed, 0, 1, 0), -7);
        }
        for (int what : new int[] {-1, 2, 10, Integer.MIN_VALUE, Integer.MAX_VALUE}) {
            due("what " + what, x.drawn(0, 0, 1, what), -7);
        }
    }

    private static int won(RingOfStraw x, int seed, int seeds) {
        int won = 0;
        for (int i = 0; i < seeds; i++) {
            won += byLots(x, seed + i, 1, 0) == 0 ? 1 : 0;
        }
        return won;
    }

    private static int common(int a, int b) {
        return b == 0 ? a : common(b, a % b);
    }

    private static void odds() {
        Edge.of(27, "By how many of so many (1 .. 40) seeds, SEED and each 1 more (they may pass 99999), the one WINS: ");
        RingOfStraw x = Rings.of("force act ; stands 1 ; ahead 0 ;", 0, 0);
        for (int seed : new int[] {0, 44480, 99959, 99960, 99998, 99999}) {
            for (int seeds : new int[] {1, 2, 12, 39, 40}) {
                if (seed < 50000 || seeds < 3 || seeds == 40) {
                    int won = won(x, seed, seeds);
                    int common = common(seeds, won);
                    due("above by " + seeds + " from " + seed, x.odds(seed, seeds, 0, 1, 0), won / common);
                    due("below by " + seeds + " from " + seed, x.odds(seed, seeds, 0, 1, 1), seeds / common);
                }
            }
        }
        Edge.of(27, "part 0 above, 1 below the line, in lowest terms. ");
        RingOfStraw bull = Rings.of("force 0 ; stands 0 ; ahead 0 ;", 0);
        bull.man(30, 0);
        for (int seeds : new int[] {1, 2, 40}) {
            due("all of " + seeds, bull.odds(0, seeds, 1, 0, 0), 1);
            due("all of " + seeds, bull.odds(0, seeds, 1, 0, 1), 1);
            due("none of " + seeds, bull.odds(0, seeds, 0, 1, 0), 0);
            due("none of " + seeds, bull.odds(0, seeds, 0, 1, 1), 1);
        }
        Rings.knee(bull, 0, 0, 0, 0);
    }

    private static void oddsNone() {
        Edge.of(27, "NO: none such.");
        RingOfStraw x = Rings.by("1", 0, 0);
        long no = RingOfStraw.NO;
        for (int part = 0; part < 2; part++) {
            for (int seed : new int[] {-1, 100000, Integer.MIN_VALUE, Integer.MAX_VALUE}) {
                due("SEED " + seed, x.odds(seed, 1, 0, 1, part), no);
            }
            for (int seeds : new int[] {-1, 0, 41, Integer.MIN_VALUE, Integer.MAX_VALUE}) {
                due("seeds " + seeds, x.odds(0, seeds, 0, 1, part), no);
            }
            for (int none : new int[] {-1, 2, 6, Integer.MIN_VALUE, Integer.MAX_VALUE}) {
                due("the one " + none, x.odds(0, 1, none, 0, part), no);
                due("the other one " + none, x.odds(0, 1, 0, none, part), no);
            }
            due("the same", x.odds(0, 1, 1, 1, part), no);
        }
        for (int part : new int[] {-1, 2, 10, Integer.MIN_VALUE, Integer.MAX_VALUE}) {
            due("part " + part, x.odds(0, 1, 0, 1, part), no);
        }
    }

    // ---- promises 28, 29

    private static void image() {
        Edge.of(28, "AN IMAGE is kept: how many WRESTLERS.");
        RingOfStraw x = new RingOfStraw();
        for (int m = 0; m <= 6; m++) {
            due("image()", x.image(), m);
            x.man(0, m);
        }
        due("of six", x.image(), 6);
        x.put(0, 0, 9);
        due("back()", x.back(), 6);
        due("as in the last one", x.told(0, 0), 0);
        x.put(0, 0, 8);
        due("image()", x.image(), 6);
        x.put(0, 0, 7);
        due("back()", x.back(), 6);
        due("as in the last one", x.told(0, 0), 8);
    }

    private static void back() {
        Edge.of(29, "All that it keeps is as in THE IMAGE, ");
        RingOfStraw x = Rings.by("weight", 30, 0);
        Checks.sheet(x, 0, P, P);
        x.meet(0, 2);
        x.put(1, 1, 9);
        x.image();
        for (int i = 0; i < 3; i++) {
            x.put(0, 0, 1);
            x.put(1, 1, 2);
            x.put(1, 2, 0);
            x.fight(0, 1, P, P);
            x.force(0);
            x.meet(0, 9);
            due("back()", x.back(), 2);
            Rings.man(x, 0, 30, 0, 0, 2, 0, 0, 0);
            Rings.man(x, 1, 0, 9, 2, 0, 2, 0, 0);
            due("DAYS", x.count(1), 2);
            due("the law", x.count(3), 1);
        }
        Edge.of(29, "WRESTLERS that came since are none: ");
        x.man(11, 1111);
        x.man(22, 2222);
        due("count(0)", x.count(0), 4);
        due("one wins", x.fight(2, 3, P, P), 2);
        due("one loses", x.fight(0, 2, P, P), 0);
        Rings.knee(x, 2, 1, 1, 1);
        due("back()", x.back(), 2);
        due("told(2, 0)", x.told(2, 0), -5);
        due("taken(2, 0)", x.taken(2, 0), -11);
        due("bout of one of them", x.bout(2, 0, 0, 0), -5);
        due("one comes anew", x.man(33, 3333), 2);
        Rings.man(x, 2, 33, 33, 0, 0, 0, 3, 3);
        due("told(3, 0)", x.told(3, 0), -5);
        Edge.of(29, "how many there are. ");
        due("back()", x.back(), 2);
        due("count(0)", x.count(0), 2);
        RingOfStraw six = Rings.by("1", 1, 2, 3, 4, 5, 6);
        six.image();
        due("of six", six.back(), 6);
        RingOfStraw none = new RingOfStraw();
        none.image();
        none.man(0, 0);
        due("of none", none.back(), 0);
        Edge.of(29, "STATE: there is none.");
        RingOfStraw y = Rings.by("weight", 30, 0);
        due("back()", y.back(), -3);
        y.fight(0, 1, P, P);
        due("back()", y.back(), -3);
        Rings.man(y, 0, 30, 0, 0, 1, 0);
        due("count(0)", y.count(0), 2);
        due("count(3)", y.count(3), 1);
    }

    // ---- promises 30, 31

    /** Two numbers of a sheet, seen as a wrestler that comes and goes; all before stays but the image. */
    private static void two(RingOfStraw x, int s, int sort, int i, int first, int second) {
        x.image();
        due("two numbers from " + i, x.menBy(s, sort, i, 1), 1);
        int m = x.count(0) - 1;
        due("number " + i, 10 * x.told(m, 5) + x.told(m, 6), first);
        due("number " + (i + 1), 100 * x.told(m, 0) + x.told(m, 1), second);
        x.back();
    }

    /** So many numbers there are. */
    private static void size(RingOfStraw x, int s, int n) {
        due("as many as " + n, x.copy(s, n, s, n, 0), 0);
        due("not more than " + n, x.copy(s, n + 1, s, 0, 0), -12);
        due("no place " + n, x.cell(s, n, 0), -12);
    }

    private static void sheet() {
        Edge.of(30, "A SHEET becomes a row of n of a sort, all 0, ");
        RingOfStraw x = new RingOfStraw();
        for (int s = 0; s < 4; s++) {
            for (int sort = 0; sort < 3; sort++) {
                for (int n : new int[] {0, 1, 39, 40}) {
                    due("sheet", x.sheet(s, sort, n), 1);
                    size(x, s, n);
                    due("of that sort", x.menBy(s, sort, 0, 0), 0);
                }
            }
        }
        for (int sort = 0; sort < 3; sort++) {
            RingOfStraw y = new RingOfStraw();
            y.sheet(1, sort, 4);
            two(y, 1, sort, 0, 0, 0);
            two(y, 1, sort, 2, 0, 0);
            for (int i = 0; i < 4; i++) {
                y.cell(1, i, 1);
            }
            two(y, 1, sort, 2, 1, 1);
            y.sheet(1, sort, 4);
            two(y, 1, sort, 0, 0, 0);
            two(y, 1, sort, 2, 0, 0);
            y.cell(1, 3, 1);
            y.sheet(1, sort, 2);
            y.sheet(1, sort, 4);
            two(y, 1, sort, 2, 0, 0);
            y.cell(1, 3, 1);
            y.sheet(1, -1, 4);
            y.sheet(1, sort, 4);
            two(y, 1, sort, 2, 0, 0);
        }
        Edge.of(30, "or missing (sort -1: n does not matter): 1. ");
        for (int n : new int[] {0, 1, 40, 41, -1, Integer.MIN_VALUE, Integer.MAX_VALUE}) {
            x.sheet(2, 0, 3);
            due("missing", x.sheet(2, -1, n), 1);
            due("missing", x.cell(2, 0, 0), -11);
            due("missing once more", x.sheet(2, -1, n), 1);
            due("the others aren't", x.cell(1, 39, 0), 1);
        }
    }

    private static void sheetRefused() {
        Edge.of(30, "BAD: SHEET, sort, n above 40; ");
        RingOfStraw x = new RingOfStraw();
        x.sheet(0, 2, 2);
        x.cell(0, 1, 77);
        for (int s : new int[] {-1, 4, 5, Integer.MIN_VALUE, Integer.MAX_VALUE}) {
            due("sheet(" + s + ", ..)", x.sheet(s, 0, 1), -2);
            due("ahead of -14", x.sheet(s, 0, -1), -2);
            due("missing", x.sheet(s, -1, 0), -2);
        }
        for (int sort : new int[] {-2, 3, 4, Integer.MIN_VALUE, Integer.MAX_VALUE}) {
            due("sort " + sort, x.sheet(0, sort, 1), -2);
            due("ahead of -14", x.sheet(0, sort, -1), -2);
        }
        for (int n : new int[] {41, 42, 160, Integer.MAX_VALUE}) {
            due("n " + n, x.sheet(0, 0, n), -2);
        }
        Edge.of(30, "-14.");
        for (int n : new int[] {-1, -2, -40, Integer.MIN_VALUE}) {
            for (int sort = 0; sort < 3; sort++) {
                due("n " + n, x.sheet(0, sort, n), -14);
                due("n " + n + " of a missing one", x.sheet(1, sort, n), -14);
            }
        }
        size(x, 0, 2);
        two(x, 0, 2, 0, 0, 77);
        due("a missing one stays", x.cell(1, 0, 0), -11);
    }

    private static void cell() {
        Edge.of(31, "Number i of a SHEET becomes v ");
        for (int s = 0; s < 4; s++) {
            RingOfStraw x = new RingOfStraw();
            x.sheet(s, 2, 40);
            for (int i = 0; i < 40; i++) {
                due("cell", x.cell(s, i, i % 2 == 0 ? i : 100 * i), 1);
            }
            for (int i = 0; i < 40; i += 2) {
                two(x, s, 2, i, i, 100 * (i + 1));
            }
            due("cell", x.cell(s, 39, 5), 1);
            two(x, s, 2, 38, 38, 5);
        }
    }

    private static final int[][] PLANS = {
        {127, 256, 383, -129, -256, Integer.MIN_VALUE}, {32767, 65536, -32769, -65536, Integer.MIN_VALUE, 128, 255},
        {262143, 65536, 32768, 255}
    };
    private static final int[][] NO_PLANS = {
        {128, 255, 384, -1, -128, 65535, Integer.MAX_VALUE}, {32768, 65535, -1, -32768, 131071, Integer.MAX_VALUE},
        {262144, -1, 65536 * 4, Integer.MIN_VALUE, Integer.MAX_VALUE}
    };

    private static void cellOfSorts() {
        Edge.of(31, "(of bytes, shorts its lowest 8, 16 bits): 1. ");
        for (int sort = 0; sort < 3; sort++) {
            RingOfStraw x = Rings.by("1", 0);
            x.sheet(0, sort, 1);
            for (int v : PLANS[sort]) {
                due("cell " + v, x.cell(0, 0, v), 1);
                due(v + " is a plan of sort " + sort, x.run(0, 0, 0), 0);
            }
            for (int v : NO_PLANS[sort]) {
                due("cell " + v, x.cell(0, 0, v), 1);
                due(v + " is no plan of sort " + sort, x.run(0, 0, 0), -2);
            }
            x.sheet(1, sort, 2);
            x.cell(1, 0, 65536 + 256 + 12);
            x.cell(1, 1, 65536 + 256 + 34);
            if (sort < 2) {
                int second = sort == 0 ? 34 : 256 + 34;
                x.cell(1, 0, 12 + 65536);
                two(x, 1, sort, 0, 12, second);
            }
            due("no man of 65536", x.menBy(1, sort, 0, 1), sort < 2 ? 1 : 0);
        }
    }

    private static void cellRefused() {
        RingOfStraw x = new RingOfStraw();
        Edge.of(31, "BAD: SHEET; ");
        for (int s : new int[] {-1, 4, 5, Integer.MIN_VALUE, Integer.MAX_VALUE}) {
            due("cell(" + s + ", ..)", x.cell(s, 0, 0), -2);
            due("ahead of -12", x.cell(s, -1, 0), -2);
        }
        Edge.of(31, "-11; ");
        for (int s = 0; s < 4; s++) {
            due("cell(" + s + ", ..)", x.cell(s, 0, 0), -11);
            due("ahead of -12", x.cell(s, 40, 0), -11);
        }
        Edge.of(31, "-12.");
        for (int n : new int[] {0, 1, 2, 39, 40}) {
            x.sheet(3, 2, n);
            for (int i : new int[] {-1, n, n + 1, 40, Integer.MIN_VALUE, Integer.MAX_VALUE}) {
                due("place " + i + " of " + n, x.cell(3, i, 7), -12);
            }
            due("the last one of " + n, x.cell(3, n - 1, 7), n == 0 ? -12 : 1);
        }
    }

    // ---- promise 32

    private static RingOfStraw rows(int sort) {
        RingOfStraw x = new RingOfStraw();
        x.sheet(0, sort, 6);
        x.sheet(1, sort, 8);
        for (int i = 0; i < 8; i++) {
            x.cell(0, i, i + 1);
            x.cell(1, i, i + 21);
        }
        return x;
    }

    private static void row(RingOfStraw x, int s, int sort, int... numbers) {
        for (int i = 0; i < numbers.length; i += 2) {
            two(x, s, sort, i, numbers[i], numbers[i + 1]);
        }
        size(x, s, numbers.length);
    }

    private static void copy() {
        Edge.of(32, "n numbers of a SHEET, from i on, come to another one's (or its own) place j ");
        for (int sort = 0; sort < 3; sort++) {
            RingOfStraw x = rows(sort);
            due("three", x.copy(0, 1, 1, 4, 3), 3);
            row(x, 1, sort, 21, 22, 23, 24, 2, 3, 4, 28);
            row(x, 0, sort, 1, 2, 3, 4, 5, 6);
            due("all", x.copy(0, 0, 1, 2, 6), 6);
            row(x, 1, sort, 21, 22, 1, 2, 3, 4, 5, 6);
            due("the last one", x.copy(1, 7, 0, 5, 1), 1);
            due("none", x.copy(1, 8, 0, 6, 0), 0);
            due("none", x.copy(1, 0, 0, 0, 0), 0);
            row(x, 0, sort, 1, 2, 3, 4, 5, 6);
        }
        RingOfStraw none = new RingOfStraw();
        none.sheet(2, 1, 0);
        due("none of none", none.copy(2, 0, 2, 0, 0), 0);
        none.sheet(3, 2, 40);
        none.cell(3, 1, 9);
        due("all of 40", none.copy(3, 0, 3, 0, 40), 40);
        two(none, 3, 2, 0, 0, 9);
        Edge.of(32, "(as they were): n. ");
        RingOfStraw x = rows(2);
        due("further on in itself", x.copy(0, 0, 0, 1, 5), 5);
        row(x, 0, 2, 1, 1, 2, 3, 4, 5);
        due("further back in itself", x.copy(0, 2, 0, 0, 4), 4);
        row(x, 0, 2, 2, 3, 4, 5, 4, 5);
        due("two further on", x.copy(1, 0, 1, 2, 6), 6);
        row(x, 1, 2, 21, 22, 21, 22, 23, 24, 25, 26);
        due("where they are", x.copy(1, 3, 1, 3, 5), 5);
        row(x, 1, 2, 21, 22, 21, 22, 23, 24, 25, 26);
    }

    private static void copyRefused() {
        RingOfStraw x = rows(2);
        x.sheet(2, 1, 6);
        Edge.of(32, "BAD: SHEETS; ");
        for (int s : new int[] {-1, 4, 5, Integer.MIN_VALUE, Integer.MAX_VALUE}) {
            due("from " + s, x.copy(s, 0, 0, 0, 1), -2);
            due("to " + s, x.copy(0, 0, s, 0, 1), -2);
            due("from " + s + " ahead of -11, -12", x.copy(s, -1, 3, 0, -1), -2);
            due("to " + s + " ahead of -11, -12", x.copy(3, -1, s, 0, -1), -2);
        }
        Edge.of(32, "-11; ");
        due("from a missing one", x.copy(3, 0, 0, 0, 1), -11);
        due("to a missing one", x.copy(0, 0, 3, 0, 1), -11);
        due("in a missing one", x.copy(3, 0, 3, 0, 0), -11);
        due("ahead of -12", x.copy(3, -1, 0, 0, -1), -11);
        due("ahead of -12", x.copy(0, -1, 3, 9, -1), -11);
        Edge.of(32, "-13: unlike sorts; ");
        due("ints to shorts", x.copy(0, 0, 2, 0, 1), -13);
        due("shorts to ints", x.copy(2, 0, 0, 0, 1), -13);
        due("none of them", x.copy(2, 0, 0, 0, 0), -13);
        due("ahead of -12", x.copy(2, -1, 0, 0, -1), -13);
        x.sheet(3, 0, 6);
        due("bytes to shorts", x.copy(3, 0, 2, 0, 1), -13);
        due("bytes to ints", x.copy(3, 0, 0, 0, 1), -13);
        Edge.of(32, "-12 (n below 0, too).");
        int[][] outside = {
            {-1, 0, 1}, {0, -1, 1}, {6, 0, 1}, {0, 8, 1}, {5, 0, 2}, {0, 7, 2}, {0, 0, 7}, {7, 0, 0}, {0, 9, 0}, {-1, 0, 0},
            {0, -1, 0}, {0, 0, -1}, {0, 0, -40}, {3, 3, -1}, {0, 0, Integer.MIN_VALUE}, {0, 0, Integer.MAX_VALUE},
            {1, 1, Integer.MAX_VALUE}, {Integer.MAX_VALUE, 0, 1}, {0, Integer.MAX_VALUE, 1}, {Integer.MIN_VALUE, 0, 1},
            {0, Integer.MIN_VALUE, 1}, {Integer.MAX_VALUE, Integer.MAX_VALUE, Integer.MAX_VALUE}, {6, 0, Integer.MIN_VALUE}
        };
        for (int[] by : outside) {
            due("from " + by[0] + " to " + by[1] + ", " + by[2] + " numbers", x.copy(0, by[0], 1, by[1], by[2]), -12);
        }
        row(x, 0, 2, 1, 2, 3, 4, 5, 6);
        row(x, 1, 2, 21, 22, 23, 24, 25, 26, 27, 28);
    }

    // ---- promise 33

    private static void menBy() {
        Edge.of(33, "WRESTLERS by a SHEET of a sort: ");
        for (int sort = 0; sort < 3; sort++) {
            RingOfStraw x = new RingOfStraw();
            x.sheet(0, sort, 2);
            x.cell(0, 0, 47);
            x.cell(0, 1, 123);
            due("menBy", x.menBy(0, sort, 0, 1), 1);
            Rings.man(x, 0, 1, 23, 0, 0, 0, 4, 7);
        }
        Edge.of(33, "from a place on, two by two (as of man()), n of them (0 .. 6): ");
        RingOfStraw x = new RingOfStraw();
        Checks.sheet(x, 0, 9, 10, 1011, 20, 2022, 30, 3033, 40, 4044, 50, 5055, 59, 9999);
        due("none", x.menBy(0, 2, 1, 0), 0);
        due("none", x.count(0), 0);
        due("six", x.menBy(0, 2, 1, 6), 6);
        for (int m = 0; m < 5; m++) {
            Rings.man(x, m, 10 * (m + 1), 11 * (m + 1), 0, 0, 0, m + 1, 0);
        }
        Rings.man(x, 5, 99, 99, 0, 0, 0, 5, 9);
        Edge.of(33, "how many came (others are left out). ");
        due("none has room", x.menBy(0, 2, 1, 6), 0);
        due("six", x.count(0), 6);
        RingOfStraw y = new RingOfStraw();
        Checks.sheet(y, 1, 60, 0, 0, 10000, 12, 34, -1, 0, 0, -1, 59, 9999);
        due("two of six", y.menBy(1, 2, 0, 6), 2);
        Rings.man(y, 0, 0, 34, 0, 0, 0, 1, 2);
        Rings.man(y, 1, 99, 99, 0, 0, 0, 5, 9);
        due("none of two", y.menBy(1, 2, 0, 2), 0);
        due("of an odd place", y.menBy(1, 2, 1, 2), 1);
        Rings.man(y, 2, 0, 0, 0, 0, 0, 0, 0);
        y.man(0, 0);
        y.man(0, 0);
        due("one has room", y.menBy(1, 2, 4, 4), 1);
        due("six", y.count(0), 6);
        Rings.man(y, 5, 0, 34, 0, 0, 0, 1, 2);
    }

    private static void menByRefused() {
        RingOfStraw x = new RingOfStraw();
        Checks.sheet(x, 0, 12, 34, 56, 78);
        Edge.of(33, "BAD: SHEET, sort, n; ");
        for (int s : new int[] {-1, 4, 5, Integer.MIN_VALUE, Integer.MAX_VALUE}) {
            due("sheet " + s, x.menBy(s, 2, 0, 1), -2);
        }
        for (int sort : new int[] {-2, -1, 3, Integer.MIN_VALUE, Integer.MAX_VALUE}) {
            due("sort " + sort, x.menBy(0, sort, 0, 1), -2);
            due("sort " + sort + " ahead of -11, -12", x.menBy(1, sort, -1, 1), -2);
        }
        for (int n : new int[] {-1, 7, 8, Integer.MIN_VALUE, Integer.MAX_VALUE}) {
            due("n " + n, x.menBy(0, 2, 0, n), -2);
            due("n " + n + " ahead of -11, -12", x.menBy(1, 2, -1, n), -2);
            due("n " + n + " ahead of -13", x.menBy(0, 1, 0, n), -2);
        }
        Edge.of(33, "-11; ");
        for (int s = 1; s < 4; s++) {
            due("missing", x.menBy(s, 2, 0, 1), -11);
            due("ahead of -12", x.menBy(s, 0, -1, 1), -11);
            due("of none", x.menBy(s, 0, 0, 0), -11);
        }
        Edge.of(33, "-13; ");
        for (int sort = 0; sort < 3; sort++) {
            x.sheet(1, sort, 4);
            due("sort 0", x.menBy(1, 0, 0, 0), sort == 0 ? 0 : -13);
            due("sort 1", x.menBy(1, 1, 0, 0), sort == 1 ? 0 : -13);
            due("sort 2", x.menBy(1, 2, 0, 0), sort == 2 ? 0 : -13);
            due("ahead of -12", x.menBy(1, (sort + 1) % 3, -1, 1), -13);
        }
        due("none came", x.count(0), 0);
        Edge.of(33, "-12: what stood ahead came.");
        for (int from : new int[] {-2, -1, 3, 4, 5, 40, Integer.MIN_VALUE, Integer.MAX_VALUE - 1, Integer.MAX_VALUE}) {
            due("from " + from, x.menBy(0, 2, from, 1), -12);
            due("from " + from, x.menBy(0, 2, from, 6), -12);
        }
        due("none came", x.count(0), 0);
        due("of two three", x.menBy(0, 2, 0, 3), -12);
        due("two came", x.count(0), 2);
        Rings.man(x, 0, 0, 34, 0, 0, 0, 1, 2);
        Rings.man(x, 1, 0, 78, 0, 0, 0, 5, 6);
        due("one and a half", x.menBy(0, 2, 1, 2), -12);
        due("one came", x.count(0), 3);
        Rings.man(x, 2, 0, 56, 0, 0, 0, 3, 4);
        due("from the last two on", x.menBy(0, 2, 2, 2), -12);
        due("one came", x.count(0), 4);
        x.sheet(2, 1, 0);
        due("of an empty one", x.menBy(2, 1, 0, 1), -12);
    }

    // ---- promise 34

    private static void taken() {
        Edge.of(34, "What lies at place i: 0 .. 5 WRESTLERS, 6 .. 11 what they have won, taken for ");
        RingOfStraw x = new RingOfStraw();
        for (int kind = 0; kind < 6; kind++) {
            x.man(10 * kind, 0);
        }
        for (int m = 0; m < 6; m++) {
            due("a wrestler", x.taken(m, 0), m);
            due("no wrestler", x.taken(m + 6, 0), -13);
            due("what one has won", x.taken(m + 6, 6), 0);
            due("not what one has won", x.taken(m, 6), -13);
        }
        Edge.of(34, "0 .. 5 a WRESTLER of that KIND (also of one that is one): the number; ");
        boolean[][] is = {
            {true, false, false, false, false, false}, {true, true, false, false, false, false},
            {true, false, true, false, false, false}, {true, true, false, true, false, false},
            {true, false, true, false, true, false}, {true, false, false, false, false, true}
        };
        for (int m = 0; m < 6; m++) {
            for (int kind = 0; kind < 6; kind++) {
                due("taken(" + m + ", " + kind + ")", x.taken(m, kind), is[m][kind] ? m : -13);
            }
        }
        Edge.of(34, "6 what one has won: WINS. ");
        for (int m = 0; m < 6; m++) {
            due("taken(" + (6 + m) + ", 6)", x.taken(6 + m, 6), 0);
        }
        RingOfStraw y = Rings.by("weight", 30, 0);
        Checks.sheet(y, 0, P, P);
        y.meet(0, 9);
        due("nine", y.taken(6, 6), 9);
        due("none", y.taken(7, 6), 0);
        for (int i = 0; i < 110; i++) {
            y.meet(0, 9);
        }
        due("999", y.taken(6, 6), 999);
        y.fight(0, 1, L, L);
        due("999", y.taken(6, 6), 999);
    }

    private static void takenRefused() {
        RingOfStraw x = new RingOfStraw();
        x.man(30, 0);
        Edge.of(34, "BAD: kind; ");
        for (int kind : new int[] {-1, 7, 8, Integer.MIN_VALUE, Integer.MAX_VALUE}) {
            due("kind " + kind, x.taken(0, kind), -2);
            due("ahead of -12", x.taken(12, kind), -2);
            due("ahead of -11", x.taken(1, kind), -2);
        }
        Edge.of(34, "-12: i; ");
        for (int i : new int[] {-1, 12, 13, Integer.MIN_VALUE, Integer.MAX_VALUE}) {
            for (int kind = 0; kind <= 6; kind++) {
                due("place " + i, x.taken(i, kind), -12);
            }
        }
        Edge.of(34, "-11: no such WRESTLER; ");
        for (int i = 0; i < 12; i++) {
            for (int kind = 0; kind <= 6 && i % 6 != 0; kind++) {
                due("place " + i, x.taken(i, kind), -11);
            }
        }
        due("of a new object", new RingOfStraw().taken(0, 0), -11);
        due("of a new object", new RingOfStraw().taken(6, 6), -11);
        Edge.of(34, "-13.");
        due("a bull as a tree", x.taken(0, 4), -13);
        due("a bull as what one has won", x.taken(0, 6), -13);
        for (int kind = 0; kind < 6; kind++) {
            due("what one has won as a wrestler", x.taken(6, kind), -13);
        }
        Rings.man(x, 0, 0, 0, 0, 0, 0, 3, 0);
    }
}
