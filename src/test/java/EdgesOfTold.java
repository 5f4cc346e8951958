/** Promises 19 to 25: told bouts. */
final class EdgesOfTold {
    private static final int P = Rings.P, H = Rings.H, A = Rings.A, L = Rings.L;

    private EdgesOfTold() {
    }

    private static void due(String call, long got, long want) {
        Edge.due(call, got, want);
    }

    static void all() {
        judge();
        judgeSheets();
        judgeRefused();
        kinds();
        more();
        knees();
        acts();
        heavy();
        laws();
        whose();
        film();
        filmRefused();
    }

    // ---- refusals of many

    private interface Asked {
        int by(int s, int twoMen, int planA, int planB);
    }

    // Each is tried ahead of all behind it, and sheet 3 is the one that is asked for.

    private static void noSheet(Asked asked) {
        for (int s : new int[] {-1, 4, 5, Integer.MIN_VALUE, Integer.MAX_VALUE}) {
            due("sheet " + s, asked.by(s, 1, 0, 0), -2);
            due("sheet " + s + " ahead of -5, -7", asked.by(s, 0, -1, -1), -2);
        }
    }

    private static void missing(RingOfStraw x, Asked asked) {
        x.sheet(3, -1, 0);
        due("missing", asked.by(3, 1, 0, 0), -11);
        due("missing ahead of -5, -7", asked.by(3, 0, -1, -1), -11);
    }

    private static void moreThanNine(RingOfStraw x, Asked asked) {
        for (int size = 10; size <= 40; size += 30) {
            x.sheet(3, 2, size);
            due("of " + size, asked.by(3, 1, 0, 0), -2);
            due("of " + size + " ahead of -5, -7", asked.by(3, 0, -1, -1), -2);
        }
        x.sheet(3, 2, 9);
        due("of nine isn't refused", asked.by(3, 1, 0, 0) >= -1 ? 1 : 0, 1);
    }

    private static void noTwo(RingOfStraw x, Asked asked) {
        x.sheet(3, 2, 9);
        for (int two : new int[] {0, 11, 2, 20, 12, 55, 56, -1, -10, Integer.MIN_VALUE, Integer.MAX_VALUE}) {
            due("twoMen " + two, asked.by(3, two, 0, 0), -5);
            due("twoMen " + two + " ahead of -7", asked.by(3, two, -1, 262144), -5);
        }
    }

    /** BAD, -11, BAD, -5 of an object with two wrestlers. */
    private static void refused(RingOfStraw x, Asked asked) {
        noSheet(asked);
        missing(x, asked);
        moreThanNine(x, asked);
        noTwo(x, asked);
    }

    private static void noPlans(Asked asked) {
        for (int none : new int[] {-1, 262144, Integer.MIN_VALUE, Integer.MAX_VALUE}) {
            due("planA " + none, asked.by(3, 1, none, 0), -7);
            due("planB " + none, asked.by(3, 1, 0, none), -7);
        }
    }

    // ---- promise 19

    private static void judge() {
        Edge.of(19, "A SHEET tells CELLS behind one second, two, .. (9 at most) of a BOUT (that of the end, if it is over): ");
        RingOfStraw x = Rings.by("weight", 10, 0);
        int[] cells = {5, 6, 7, 8, 8, 8, 8, 8, 8};
        Checks.sheet(x, 0, cells);
        for (int n = 0; n <= 9; n++) {
            x.sheet(1, 2, n);
            x.copy(0, 0, 1, 0, n);
            due("the first " + n, x.judge(1, 1, P, P), -1);
        }
        Edge.of(19, "the first (from 0) that is otherwise; ");
        for (int i = 8; i >= 0; i--) {
            x.cell(0, i, 9 - cells[i]);
            due("number " + i, x.judge(0, 1, P, P), i);
        }
        Checks.sheet(x, 0, 5, 7, 7, 7);
        due("the first of two", x.judge(0, 1, P, P), 1);
        Checks.sheet(x, 0, 4, 5, 6, 7, 8);
        due("the start is not told", x.judge(0, 1, P, P), 0);
        Edge.of(19, "-1: none. ");
        Checks.sheet(x, 2);
        due("nothing is told", x.judge(2, 1, P, P), -1);
        due("nothing is told", x.judge(2, 10, H, A), -1);
        Checks.sheet(x, 0, 4, 4, 4, 4, 4, 4, 4, 4, 4);
        due("nine alike", x.judge(0, 1, A, A), -1);
        Checks.sheet(x, 0, 3, 2, 1, 0, 0);
        due("the other one", x.judge(0, 10, P, P), -1);
    }

    private static void judgeSheets() {
        Edge.of(19, "A SHEET tells CELLS");
        RingOfStraw x = Rings.by("weight", 10, 0);
        int[] told = {5, 261, -251, 65541, -65531, Integer.MIN_VALUE + 5, 6, -5};
        boolean[][] isFive = {
            {true, true, true, true, true, true, false, false}, {true, false, false, true, true, true, false, false},
            {true, false, false, false, false, false, false, false}
        };
        for (int sort = 0; sort < 3; sort++) {
            for (int i = 0; i < told.length; i++) {
                x.sheet(0, sort, 1);
                x.cell(0, 0, told[i]);
                due(told[i] + " by sort " + sort, x.judge(0, 1, P, P), isFive[sort][i] ? -1 : 0);
            }
        }
    }

    private static void judgeRefused() {
        RingOfStraw x = Rings.by("weight", 10, 0);
        Edge.of(19, "BAD: SHEET; ");
        noSheet((s, two, a, b) -> x.judge(s, two, a, b));
        Edge.of(19, "-11; ");
        missing(x, (s, two, a, b) -> x.judge(s, two, a, b));
        Edge.of(19, "BAD: it tells more than 9; ");
        moreThanNine(x, (s, two, a, b) -> x.judge(s, two, a, b));
        Edge.of(19, "-5: no such two; ");
        noTwo(x, (s, two, a, b) -> x.judge(s, two, a, b));
        Edge.of(19, "-7: a PLAN.");
        noPlans((s, two, a, b) -> x.judge(s, two, a, b));
    }

    // ---- promise 20

    private static void kinds() {
        Edge.of(20, "KINDS (sort 0; bits 0 .. 5), ");
        RingOfStraw x = Rings.of("force weight ; stands 0 ; ahead 1 ;");
        x.man(3, 1000);
        x.man(0, 1500);
        // 10 against 15, a pusher's and a bull's 19, a holder's and a tree's and a sly one's 5; a bull from 5, a tree from 3 on.
        int[] byPush = {0, 0, 16, 37, 0, 2, 8, 0, 0};
        for (int cell = 0; cell < 9; cell++) {
            Checks.sheet(x, 0, cell);
            due("push, cell " + cell, x.kinds(0, 1, P, P, 0), byPush[cell]);
        }
        Checks.sheet(x, 0, 4);
        due("hold, cell 4", x.kinds(0, 1, H, P, 0), 4 + 8);
        Checks.sheet(x, 0, 4, 4);
        due("hold, cells 4 4", x.kinds(0, 1, H, P, 0), 4);
        x.put(1, 0, 3);
        due("aside, cells 4 4", x.kinds(0, 1, A, H, 0), 32);
        x.put(1, 0, 10);
        due("push, cells 4 4", x.kinds(0, 1, P, P, 0), 1);
        Checks.sheet(x, 0);
        due("nothing is told", x.kinds(0, 1, P, P, 0), 63);
        Rings.man(x, 0, 10, 0, 0, 0, 0, 0, 3);
    }

    private static void more() {
        Edge.of(20, "MORE (1; bits 0 .. 9), ");
        RingOfStraw x = Rings.by("weight");
        x.man(15, 1000);
        x.man(0, 1900);
        int[] against19 = {0, 0, 0, 7, 8, 0x3F0, 0};
        int[] against16 = {0, 0, 0, 3, 4, 0x1F8, 0x200};
        for (int cell = 0; cell < 7; cell++) {
            Checks.sheet(x, 0, cell);
            x.put(1, 0, 19);
            due("against 19, cell " + cell, x.kinds(0, 1, P, P, 1), against19[cell]);
            x.put(1, 0, 16);
            due("against 16, cell " + cell, x.kinds(0, 1, P, P, 1), against16[cell]);
        }
        Checks.sheet(x, 0);
        due("nothing is told", x.kinds(0, 1, P, P, 1), 1023);
        Rings.man(x, 0, 10, 0, 0, 0, 0, 1, 5);
    }

    private static void knees() {
        Edge.of(20, "KNEES (2; bits 0 .. 9) ");
        RingOfStraw x = Rings.by("weight", 10, 5);
        int[] fitting = {0, 0, 0, 0x3C0, 0x20, 0x1F, 0};
        for (int knee = 0; knee < 10; knee += 9) {
            x.put(0, 2, knee);
            for (int cell = 0; cell < 7; cell++) {
                Checks.sheet(x, 0, cell);
                due("cell " + cell, x.kinds(0, 1, P, P, 2), fitting[cell]);
            }
            Rings.man(x, 0, 10, 0, knee, 0, 0, 0, 0);
        }
        x.put(1, 0, 19);
        Checks.sheet(x, 0, 3);
        due("the worst but one", x.kinds(0, 1, P, P, 2), 0x3FF);
        x.put(1, 0, 22);
        due("the worst isn't", x.kinds(0, 1, P, P, 2), 0x1FF);
        Edge.of(20, "by which, were they the one's, that would be -1. ");
        // Were they the other one's, it would be otherwise.
        RingOfStraw y = Rings.by("weight", 10, 10);
        Checks.sheet(y, 0, 3);
        due("the one's", y.kinds(0, 1, P, P, 2), 0x3FE);
        due("the one's", y.kinds(0, 10, P, P, 2), 0x3FE);
        Checks.sheet(y, 0, 5);
        due("none", y.kinds(0, 1, P, P, 2), 0);
        Edge.of(20, "BAD, -11, BAD, -5 likewise; ");
        refused(x, (s, two, a, b) -> x.kinds(s, two, a, b, two == 1 ? 0 : 3));
        Edge.of(20, "-7: a PLAN, sort.");
        noPlans((s, two, a, b) -> x.kinds(s, two, a, b, 0));
        for (int sort : new int[] {-1, 3, 4, 10, Integer.MIN_VALUE, Integer.MAX_VALUE}) {
            due("sort " + sort, x.kinds(3, 1, 0, 0, sort), -7);
        }
    }

    // ---- promise 21

    private static void acts() {
        Edge.of(21, "ACTS (bits) of second t (0 .. 8) ");
        RingOfStraw x = Rings.by("act", 0, 0);
        for (int t = 0; t < 9; t++) {
            Checks.sheet(x, 0, 4, 4, 4, 4, 4, 4, 4, 4, 4);
            due("push in second " + t, x.acts(0, 1, P, P, t), 1);
            for (int i = t; i < 9; i++) {
                x.cell(0, i, 5);
            }
            due("another one in second " + t, x.acts(0, 1, P, P, t), 14);
        }
        Edge.of(21, "by which, were they in the one's PLAN, that would be -1. ");
        Checks.sheet(x, 0, 5, 6, 7, 8);
        for (int t = 0; t < 4; t++) {
            due("in the place of pull, second " + t, x.acts(0, 1, L, P, t), 14);
            due("in the place of push, second " + t, x.acts(0, 1, L & ~(3 << 2 * t), P, t), 14);
        }
        due("when it is over", x.acts(0, 1, L, P, 4), 15);
        due("when it is over", x.acts(0, 1, L, P, 8), 15);
        Checks.sheet(x, 0, 5);
        due("of which nothing is told", x.acts(0, 1, L, P, 1), 15);
        due("otherwise before", x.acts(0, 1, P, P, 1), 0);
        Checks.sheet(x, 0, 3);
        due("none", x.acts(0, 1, P, P, 0), 0);
        Checks.sheet(x, 0);
        due("nothing is told", x.acts(0, 1, P, L, 0), 15);
        Checks.sheet(x, 0, 3);
        due("the one's, not the other one's", x.acts(0, 1, P, H, 0), 1 + 4);
        Edge.of(21, "BAD, -11, BAD, -5 likewise; ");
        refused(x, (s, two, a, b) -> x.acts(s, two, a, b, two == 1 ? 0 : 9));
        Edge.of(21, "-7: a PLAN, t.");
        noPlans((s, two, a, b) -> x.acts(s, two, a, b, 0));
        for (int t : new int[] {-1, 9, 10, 32, Integer.MIN_VALUE, Integer.MAX_VALUE}) {
            due("t " + t, x.acts(3, 1, 0, 0, t), -7);
        }
    }

    // ---- promise 22

    private static void heavy() {
        Edge.of(22, "sortWhat: 10 times sort, and what. ");
        RingOfStraw x = Rings.by("weight", 3, 50);
        RingOfStraw y = Rings.by("pace", 3, 50);
        y.put(1, 1, 50);
        Checks.sheet(x, 0, 5);
        Checks.sheet(y, 0, 5);
        int[] sortWhats = {0, 1, 10, 11};
        int[] byWeight = {20, 51, 0, -1};
        int[] byPace = {0, -1, 20, 51};
        for (int i = 0; i < 4; i++) {
            due("sortWhat " + sortWhats[i], x.heavy(0, 1, P, P, sortWhats[i]), byWeight[i]);
            due("sortWhat " + sortWhats[i], y.heavy(0, 1, P, P, sortWhats[i]), byPace[i]);
        }
        Edge.of(22, "WEIGHTS (sort 0), PACES (1) of 0 .. 99 by which, were they the one's, that would be -1: ");
        int[] many = {0, 0, 30, 20, 1, 20, 29, 0, 0};
        int[] least = {-1, -1, 0, 30, 50, 51, 71, -1, -1};
        for (int cell = 0; cell < 9; cell++) {
            Checks.sheet(x, 0, cell);
            Checks.sheet(y, 0, cell);
            due("weights by cell " + cell, x.heavy(0, 1, P, P, 0), many[cell]);
            due("the least by cell " + cell, x.heavy(0, 1, P, P, 1), least[cell]);
            due("paces by cell " + cell, y.heavy(0, 1, P, P, 10), many[cell]);
            due("the least by cell " + cell, y.heavy(0, 1, P, P, 11), least[cell]);
        }
        Rings.man(x, 0, 3, 0);
        Rings.man(y, 0, 3, 0);
        Edge.of(22, "how many (what 0), ");
        Checks.sheet(x, 0);
        due("nothing is told", x.heavy(0, 1, P, P, 0), 100);
        due("nothing is told", x.heavy(0, 1, P, P, 10), 100);
        Checks.sheet(x, 0, 4);
        x.put(1, 0, 99);
        due("99 alone", x.heavy(0, 1, P, P, 0), 1);
        Edge.of(22, "the least (1; -1: none). ");
        due("99 alone", x.heavy(0, 1, P, P, 1), 99);
        x.put(1, 0, 0);
        due("0", x.heavy(0, 1, P, P, 1), 0);
        Checks.sheet(x, 0, 3);
        due("none", x.heavy(0, 1, P, P, 1), -1);
        due("none", x.heavy(0, 1, P, P, 11), -1);
        due("none", x.heavy(0, 1, P, P, 0), 0);
        Edge.of(22, "BAD, -11, BAD, -5 likewise; ");
        refused(x, (s, two, a, b) -> x.heavy(s, two, a, b, two == 1 ? 0 : 2));
        Edge.of(22, "-7: a PLAN, sortWhat.");
        noPlans((s, two, a, b) -> x.heavy(s, two, a, b, 0));
        for (int no : new int[] {-1, 2, 9, 12, 19, 20, 21, -10, -9, -11, Integer.MIN_VALUE, Integer.MAX_VALUE}) {
            due("sortWhat " + no, x.heavy(3, 1, 0, 0, no), -7);
        }
    }

    // ---- promises 23, 24

    private static void laws() {
        Edge.of(23, "TEXTS (bits), were they THE LAW, by which that would be -1. ");
        RingOfStraw x = Rings.by("weight", 10, 5);
        Checks.sheet(x, 0);
        due("two texts", x.laws(0, 1, P, P), 3);
        Checks.read(x, "force 0 ; stands 0 ; ahead 0 ;");
        Checks.read(x, "force weight ; stands 1 ; ahead 0 ;");
        Checks.read(x, "force 10 - weight ; stands 0 ; ahead 0 ;");
        Checks.read(x, "force weight * 5 ; stands 0 ; ahead weight ;");
        due("nothing is told", x.laws(0, 1, P, P), 63);
        int[] fitting = {0, 0, 0, 16, 4, 11, 32};
        for (int cell = 0; cell < 7; cell++) {
            Checks.sheet(x, 0, cell);
            due("cell " + cell, x.laws(0, 1, P, P), fitting[cell]);
        }
        Checks.sheet(x, 0, 5, 6, 7, 7);
        due("who stands", x.laws(0, 1, P, P), 1 + 8);
        Checks.sheet(x, 0, 5, 6, 7, 7, 8);
        due("who stands one second", x.laws(0, 1, P, P), 8);
        Checks.sheet(x, 0, 5, 6, 7, 7, 7, 8);
        due("who stands two seconds", x.laws(0, 1, P, P), 1);
        Checks.sheet(x, 0, 5, 6, 7, 8);
        due("who doesn't stand", x.laws(0, 1, P, P), 2);
        due("the law stays", x.count(3), 1);
        RingOfStraw one = new RingOfStraw();
        one.man(0, 0);
        one.man(0, 0);
        one.sheet(0, 0, 9);
        due("none", one.laws(0, 1, P, P), 0);
        one.sheet(0, 0, 0);
        due("the only one", one.laws(0, 1, P, P), 1);
        Edge.of(23, "BAD, -11, BAD, -5, -7 likewise.");
        refused(x, (s, two, a, b) -> x.laws(s, two, a, b));
        noPlans((s, two, a, b) -> x.laws(s, two, a, b));
    }

    private static void whose() {
        Edge.of(24, "WRESTLERS (bits; not oneself) by whom, were they the other one, that would be -1. ");
        RingOfStraw x = Rings.by("weight", 10, 9, 10, 11, 40, 10);
        int[] ofTwo = {0, 0, 16, 8, 33, 2, 0};
        for (int cell = 0; cell < 7; cell++) {
            Checks.sheet(x, 0, cell);
            due("of 2 by cell " + cell, x.whose(0, 2, P, P), ofTwo[cell]);
        }
        Checks.sheet(x, 0);
        for (int m = 0; m < 6; m++) {
            due("nothing is told of " + m, x.whose(0, m, P, P), 63 - (1 << m));
        }
        Checks.sheet(x, 0, 5, 6, 7, 8, 8);
        due("hold against aside", x.whose(0, 0, H, A), 62);
        due("aside against hold", x.whose(0, 0, A, H), 0);
        due("of a single one", alone(0), 0);
        Edge.of(24, "BAD, -11, BAD likewise; ");
        RingOfStraw y = Rings.by("weight", 10, 0);
        refused(y, (s, two, a, b) -> y.whose(s, two == 1 ? 0 : two == 0 ? 2 : two, a, b));
        Edge.of(24, "-5: no such WRESTLER; ");
        y.sheet(3, 2, 9);
        for (int m : new int[] {-1, 2, 5, 6, Integer.MIN_VALUE, Integer.MAX_VALUE}) {
            due("whose(3, " + m + ", ..)", y.whose(3, m, 0, 0), -5);
            due("ahead of -7", y.whose(3, m, -1, 0), -5);
        }
        Edge.of(24, "-7: a PLAN.");
        noPlans((s, two, a, b) -> y.whose(s, 0, a, b));
        due("of a single one, too", alone(-1), -7);
    }

    private static int alone(int planA) {
        RingOfStraw x = Rings.by("weight", 10);
        Checks.sheet(x, 0);
        return x.whose(0, 0, planA, P);
    }

    // ---- promise 25

    /** The sheet is a row of bytes: of so many, all these. */
    private static void isRow(RingOfStraw x, int s, int twoMen, int planA, int planB, int... cells) {
        due("of bytes", x.menBy(s, 0, 0, 0), 0);
        due("as many as cells", x.copy(s, cells.length, s, 0, 0), 0);
        due("not one more", x.copy(s, cells.length + 1, s, 0, 0), -12);
        due("as it was", x.judge(s, twoMen, planA, planB), -1);
        for (int i = 0; i < cells.length; i++) {
            x.cell(s, i, 9);
            due("number " + i + " is otherwise", x.judge(s, twoMen, planA, planB), i);
            x.cell(s, i, cells[i]);
            due("number " + i, x.judge(s, twoMen, planA, planB), -1);
        }
    }

    private static void film() {
        Edge.of(25, "A SHEET truly becomes CELLS behind all SECONDS of a BOUT (bytes): how many. ");
        RingOfStraw x = Rings.of("force weight ; stands 0 ; ahead weight ;", 30, 0);
        due("one second", x.film(0, 1, P, P), 1);
        isRow(x, 0, 1, P, P, 8);
        due("one second", x.film(0, 10, P, P), 1);
        isRow(x, 0, 10, P, P, 0);
        due("nine seconds", x.film(0, 1, A, A), 9);
        isRow(x, 0, 1, A, A, 6, 6, 6, 6, 6, 6, 6, 6, 6);
        RingOfStraw y = Rings.by("act", 0, 0);
        int plan = Checks.plan("LPPLPPPPL");
        int other = Checks.plan("PHHPLPPPP");
        for (int sort = -1; sort < 3; sort++) {
            y.sheet(2, sort, 40);
            due("over sort " + sort, y.film(2, 1, plan, other), 9);
            isRow(y, 2, 1, plan, other, 5, 4, 3, 4, 3, 3, 3, 3, 4);
        }
        due("four seconds over nine", y.film(2, 1, L, P), 4);
        isRow(y, 2, 1, L, P, 5, 6, 7, 8);
        for (int m = 0; m < 2; m++) {
            Rings.knee(y, m, 0, 0, 0);
        }
        due("no other sheet", y.cell(1, 0, 0), -11);
    }

    private static void filmRefused() {
        RingOfStraw x = Rings.by("weight", 10, 0);
        Edge.of(25, "BAD: SHEET; ");
        for (int s : new int[] {-1, 4, 5, Integer.MIN_VALUE, Integer.MAX_VALUE}) {
            due("film(" + s + ", ..)", x.film(s, 1, P, P), -2);
            due("ahead of -5, -7", x.film(s, 0, -1, P), -2);
        }
        Edge.of(25, "-5: no such two; ");
        Checks.sheet(x, 0, 9, 9);
        for (int two : new int[] {0, 11, 2, 20, 12, 55, 56, -1, Integer.MIN_VALUE, Integer.MAX_VALUE}) {
            due("twoMen " + two, x.film(0, two, P, P), -5);
            due("ahead of -7", x.film(0, two, -1, 262144), -5);
        }
        Edge.of(25, "-7: a PLAN.");
        for (int none : new int[] {-1, 262144, Integer.MIN_VALUE, Integer.MAX_VALUE}) {
            due("planA " + none, x.film(0, 1, none, P), -7);
            due("planB " + none, x.film(1, 1, P, none), -7);
        }
        due("the sheet stays", x.menBy(0, 2, 0, 1), 1);
        due("a missing one stays", x.cell(1, 0, 0), -11);
    }
}
