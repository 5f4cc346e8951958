/** Promises 10 to 18: bouts thought and true, what is best, days. */
final class EdgesOfBest {
    private static final int P = Rings.P, H = Rings.H, A = Rings.A, L = Rings.L;

    private EdgesOfBest() {
    }

    private static void due(String call, long got, long want) {
        Edge.due(call, got, want);
    }

    static void all() {
        bout();
        boutRefused();
        fight();
        fightCounts();
        fightRefused();
        best();
        bestRefused();
        sure();
        sureRefused();
        chance();
        chanceNone();
        knees();
        beats();
        meet();
        meetOrder();
        meetLeader();
        meetRefused();
        meetFull();
        run();
        runRefused();
    }

    /** Plans and numbers that aren't any, of a call that takes two plans. */
    private interface ByPlans {
        int answer(int planA, int planB);
    }

    private static void noPlans(ByPlans call) {
        for (int none : new int[] {-1, 262144, 262145, Integer.MIN_VALUE, Integer.MAX_VALUE}) {
            due("planA " + none, call.answer(none, 0), -7);
            due("planB " + none, call.answer(0, none), -7);
        }
    }

    // ---- promise 10

    private static void bout() {
        Edge.of(10, "A BOUT, in thought: ");
        RingOfStraw x = Rings.by("weight", 30, 10, 30);
        due("bout", x.bout(1, P, P, 0), 0);
        due("bout", x.bout(10, P, P, 0), 0);
        for (int m = 0; m < 3; m++) {
            Rings.knee(x, m, 0, 0, 0);
        }
        due("days", x.count(1), 0);
        Edge.of(10, "who WINS (what 0; -1: nobody), ");
        due("the one", x.bout(21, P, P, 0), 2);
        due("the other one", x.bout(12, P, P, 0), 2);
        due("nobody", x.bout(20, P, P, 0), -1);
        due("wrestler 0", x.bout(10, P, P, 0), 0);
        Edge.of(10, "SECONDS (1), ");
        due("four", x.bout(1, P, P, 1), 4);
        due("nine", x.bout(2, P, P, 1), 9);
        RingOfStraw y = Rings.of("force weight ; stands 0 ; ahead weight ;", 30, 0);
        due("one", y.bout(1, P, P, 1), 1);
        Edge.of(10, "the CELL behind what less 10 seconds (10 .. 19; that of the end, if it is over). ");
        int[] cells = {4, 5, 6, 7, 8, 8, 8, 8, 8, 8};
        for (int i = 0; i < 10; i++) {
            due("behind " + i, x.bout(1, P, P, 10 + i), cells[i]);
            due("behind " + i, x.bout(10, P, P, 10 + i), 8 - cells[i]);
            due("behind " + i, x.bout(2, P, P, 10 + i), 4);
        }
        due("the start", y.bout(1, P, P, 10), 6);
        due("the end", y.bout(1, P, P, 11), 8);
    }

    private static void boutRefused() {
        RingOfStraw x = Rings.by("weight", 30, 10);
        Edge.of(10, "-5: no such two; ");
        for (int two : new int[] {0, 11, 2, 20, 12, 22, 55, 56, -1, -10, 101, Integer.MIN_VALUE, Integer.MAX_VALUE}) {
            due("bout(" + two + ", ..)", x.bout(two, 0, 0, 0), -5);
            due("ahead of -7", x.bout(two, -1, 262144, 2), -5);
        }
        due("of a new object", new RingOfStraw().bout(1, 0, 0, 0), -5);
        Edge.of(10, "-7: a PLAN, what.");
        noPlans((a, b) -> x.bout(1, a, b, 0));
        for (int what : new int[] {-1, 2, 3, 8, 9, 20, 21, Integer.MIN_VALUE, Integer.MAX_VALUE}) {
            due("what " + what, x.bout(1, 0, 0, what), -7);
        }
        due("plans that are", x.bout(1, 262143, 262143, 0), 0);
    }

    // ---- promise 11

    private static void fight() {
        Edge.of(11, "A BOUT, truly: ");
        RingOfStraw x = Rings.by("act", 0, 0);
        due("fight", x.fight(0, 1, L, H), 0);
        due("fight", x.fight(1, 0, H, L), 0);
        Rings.knee(x, 0, 0, 2, 0);
        Rings.knee(x, 1, 2, 0, 2);
        RingOfStraw late = Rings.by("act", 0, 0);
        due("by one cell behind the last second", late.fight(0, 1, Checks.plan("PPPPPPPPH"), P), 0);
        Rings.knee(late, 0, 0, 1, 0);
        Rings.knee(late, 1, 0, 0, 1);
        due("by one cell behind the last second", late.fight(0, 1, P, Checks.plan("PPPPPPPPH")), 1);
        Rings.knee(late, 0, 0, 1, 1);
        Rings.knee(late, 1, 0, 1, 1);
        Edge.of(11, "who WINS (-1: nobody; then nothing is otherwise): ");
        due("nobody", x.fight(0, 1, P, P), -1);
        due("nobody", x.fight(1, 0, P, P), -1);
        due("nobody, from cell to cell", x.fight(0, 1, Checks.plan("LPLPLPLPP"), Checks.plan("P")), 0);
        Rings.knee(x, 0, 0, 3, 0);
        Rings.knee(x, 1, 2, 0, 3);
        due("days", x.count(1), 0);
        due("the other one", x.fight(0, 1, P, L), 1);
        Rings.knee(x, 0, 1, 3, 1);
        Rings.knee(x, 1, 2, 1, 3);
    }

    private static void fightCounts() {
        Edge.of(11, "WINS of that one, LOSSES of the other one are 1 more (999 at most); ");
        RingOfStraw x = Rings.by("weight", 30, 0, 0);
        Checks.sheet(x, 0, P, P, P);
        for (int i = 0; i < 62; i++) {
            x.meet(0, 8);
        }
        Rings.knee(x, 0, 0, 992, 0);
        for (int wins = 993; wins < 1003; wins++) {
            due("fight", x.fight(1, 0, P, P), 0);
            due("WINS", x.told(0, 3), Math.min(999, wins));
            due("LOSSES", x.told(1, 4), wins - 496);
        }
        for (int i = 0; i < 55; i++) {
            x.meet(0, 9);
        }
        due("LOSSES", x.told(1, 4), 999);
        due("fight", x.fight(1, 0, P, P), 0);
        Rings.knee(x, 1, 9, 0, 999);
        Rings.knee(x, 0, 0, 999, 0);
        due("LOSSES of the third", x.told(2, 4), 991);
        Edge.of(11, "if SECONDS are fewer than 5, KNEE of that other one is 1 more (9 at most). ");
        RingOfStraw y = Rings.by("act", 0, 0);
        String[] plans = {"L", "PL", "PPL", "PPPPPPPPL"};
        int[] seconds = {4, 5, 6, 9};
        for (int i = 0; i < 4; i++) {
            int plan = Checks.plan(plans[i]);
            due("seconds", y.bout(1, plan, P, 1), seconds[i]);
            y.put(1, 2, 0);
            due("fight of " + seconds[i], y.fight(0, 1, plan, P), 0);
            due("KNEE", y.told(1, 2), i == 0 ? 1 : 0);
        }
        y.put(1, 2, 0);
        for (int i = 1; i < 12; i++) {
            y.fight(0, 1, L, P);
            due("KNEE behind " + i, y.told(1, 2), Math.min(9, i));
        }
        due("KNEE of who wins", y.told(0, 2), 0);
        due("the one loses", y.fight(0, 1, P, A), -1);
        y.put(1, 2, 0);
        due("the one loses", y.fight(0, 1, P, A), 1);
        due("KNEE of the one", y.told(0, 2), 1);
        due("KNEE of the other one", y.told(1, 2), 0);
    }

    private static void fightRefused() {
        RingOfStraw x = Rings.by("weight", 30, 10);
        Edge.of(11, "-5: no such two; ");
        for (int none : new int[] {-1, 2, 5, 6, 10, Integer.MIN_VALUE, Integer.MAX_VALUE}) {
            due("the one " + none, x.fight(none, 0, P, P), -5);
            due("the other one " + none, x.fight(0, none, P, P), -5);
            due("ahead of -7", x.fight(none, 1, -1, P), -5);
        }
        due("the same", x.fight(0, 0, P, P), -5);
        due("the same, ahead of -7", x.fight(1, 1, -1, 262144), -5);
        Edge.of(11, "-7: a PLAN.");
        noPlans((a, b) -> x.fight(0, 1, a, b));
        Rings.knee(x, 0, 0, 0, 0);
        Rings.knee(x, 1, 0, 0, 0);
    }

    // ---- promise 12

    private static void best(RingOfStraw x, int twoMen, int planB, int n, int plan, int seconds) {
        due("plan of " + n, x.best(twoMen, planB, n, 0), plan);
        due("seconds of " + n, x.best(twoMen, planB, n, 1), seconds);
    }

    private static void best() {
        Edge.of(12, "The SHORT PLAN of n (1 .. 3) seconds by which the one WINS in fewest SECONDS against a PLAN, ");
        RingOfStraw x = Rings.by("act", 0, 0);
        // By one act against hold and push: pull alone is over in 4; so is it by two and three of them.
        best(x, 1, Checks.plan("HPPP"), 1, 2 + 1, 4);
        best(x, 1, Checks.plan("HPPP"), 2, 3 + 4, 4);
        best(x, 1, Checks.plan("HPPP"), 3, 3 + 4 + 16, 4);
        // It takes one, two, three acts to follow the other one's.
        best(x, 1, Checks.plan("PPPHHHHHH"), 1, 3, 4);
        best(x, 1, Checks.plan("PHLLLLLLL"), 2, 12, 9);
        best(x, 1, Checks.plan("PHLLLLLLL"), 3, 1 + 4 + 48, 9);
        Edge.of(12, "of like ones the least (what 0), ");
        RingOfStraw y = Rings.by("weight", 30, 15);
        best(y, 1, H, 1, 0, 4);
        best(y, 1, H, 2, 0, 4);
        best(y, 1, H, 3, 0, 4);
        best(y, 1, L, 3, 0, 4);
        best(y, 1, A, 1, 1, 2);
        best(y, 1, A, 3, 1 + 4, 2);
        Edge.of(12, "these (1); ");
        RingOfStraw z = Rings.of("force weight ; stands 0 ; ahead weight ;", 30, 0);
        best(z, 1, H, 1, 0, 1);
        best(z, 1, H, 3, 0, 1);
        RingOfStraw late = Rings.of("force weight * (act = 3) ; stands 5 ; ahead 0 ;", 9, 0);
        best(late, 1, H, 1, 3, 9);
        best(late, 1, H, 2, 3, 9);
        best(late, 1, H, 3, 3, 9);
        Edge.of(12, "-1: none. ");
        best(y, 10, P, 1, -1, -1);
        best(y, 10, P, 3, -1, -1);
        // Nobody wins is not won.
        best(Rings.by("0", 0, 0), 1, P, 3, -1, -1);
        Rings.knee(y, 0, 0, 0, 0);
    }

    private static void bestRefused() {
        RingOfStraw x = Rings.by("weight", 30, 0);
        Edge.of(12, "-5: no such two; ");
        for (int two : new int[] {0, 11, 2, 20, -1, 56, Integer.MIN_VALUE, Integer.MAX_VALUE}) {
            due("best(" + two + ", ..)", x.best(two, 0, 1, 0), -5);
            due("ahead of -7", x.best(two, -1, 0, 2), -5);
        }
        Edge.of(12, "-7: PLAN, n, what.");
        for (int none : new int[] {-1, 262144, Integer.MIN_VALUE, Integer.MAX_VALUE}) {
            due("plan " + none, x.best(1, none, 1, 0), -7);
        }
        for (int n : new int[] {-1, 0, 4, 9, Integer.MIN_VALUE, Integer.MAX_VALUE}) {
            due("n " + n, x.best(1, 0, n, 0), -7);
        }
        for (int what : new int[] {-1, 2, 10, Integer.MIN_VALUE, Integer.MAX_VALUE}) {
            due("what " + what, x.best(1, 0, 1, what), -7);
        }
        due("the greatest plan", x.best(1, 262143, 1, 0), 0);
    }

    // ---- promise 13

    private static void sure(RingOfStraw x, int twoMen, int n, int plan, int many) {
        due("plan of " + n, x.sure(twoMen, n, 0), plan);
        due("many of " + n, x.sure(twoMen, n, 1), many);
    }

    private static void sure() {
        Edge.of(13, "The SHORT PLAN of n (1 .. 2) seconds by which the one WINS against most of all SHORT PLANS of n seconds of the other one's, ");
        RingOfStraw x = Rings.by("act", 0, 0);
        // Pull wins against all but pull; push, hold and aside against less.
        sure(x, 1, 1, 3, 3);
        sure(x, 1, 2, 15, 15);
        sure(x, 10, 2, 15, 15);
        Edge.of(13, "of like ones the least (what 0), ");
        RingOfStraw even = Rings.by("1", 0, 0);
        // Push, hold, pull are alike: each wins against aside, but push loses to it.
        sure(even, 1, 1, 1, 1);
        RingOfStraw bull = Rings.of("force 0 ; stands 0 ; ahead 0 ;");
        bull.man(30, 0);
        bull.man(0, 0);
        sure(bull, 1, 1, 0, 4);
        sure(bull, 1, 2, 0, 16);
        Edge.of(13, "against how many (1). ");
        sure(bull, 10, 1, 0, 0);
        sure(bull, 10, 2, 0, 0);
        Rings.knee(bull, 0, 0, 0, 0);
    }

    private static void sureRefused() {
        RingOfStraw x = Rings.by("weight", 30, 0);
        Edge.of(13, "-5: no such two; ");
        for (int two : new int[] {0, 11, 2, 20, -1, 56, Integer.MIN_VALUE, Integer.MAX_VALUE}) {
            due("sure(" + two + ", ..)", x.sure(two, 1, 0), -5);
            due("ahead of -7", x.sure(two, 0, 2), -5);
        }
        Edge.of(13, "-7: n, what.");
        for (int n : new int[] {-1, 0, 3, 9, Integer.MIN_VALUE, Integer.MAX_VALUE}) {
            due("n " + n, x.sure(1, n, 0), -7);
        }
        for (int what : new int[] {-1, 2, 10, Integer.MIN_VALUE, Integer.MAX_VALUE}) {
            due("what " + what, x.sure(1, 1, what), -7);
        }
    }

    // ---- promise 14

    private static void chance(RingOfStraw x, int twoMen, int n, long above, long below) {
        due("above, of " + n, x.chance(twoMen, n, 0), above);
        due("below, of " + n, x.chance(twoMen, n, 1), below);
    }

    private static void chance() {
        Edge.of(14, "By how many of all SHORT PLANS of n (1 .. 2) seconds of both the one WINS: ");
        RingOfStraw x = Rings.by("act", 0, 0);
        // Of 16 by hold against push, aside against push, pull against the other three, hold against aside.
        chance(x, 1, 1, 3, 8);
        chance(x, 10, 1, 3, 8);
        chance(x, 1, 2, 15, 32);
        Edge.of(14, "part 0 above, 1 below the line, in lowest terms. ");
        RingOfStraw bull = Rings.of("force 0 ; stands 0 ; ahead 0 ;");
        bull.man(30, 0);
        bull.man(0, 0);
        chance(bull, 1, 1, 1, 1);
        chance(bull, 1, 2, 1, 1);
        chance(bull, 10, 1, 0, 1);
        chance(bull, 10, 2, 0, 1);
        RingOfStraw one = Rings.by("act = 3", 0, 0);
        chance(one, 1, 1, 3, 16);
    }

    private static void chanceNone() {
        Edge.of(14, "NO: none such.");
        RingOfStraw x = Rings.by("weight", 30, 0);
        long no = RingOfStraw.NO;
        for (int part = 0; part < 2; part++) {
            for (int two : new int[] {0, 11, 2, 20, -1, 56, Integer.MIN_VALUE, Integer.MAX_VALUE}) {
                due("chance(" + two + ", ..)", x.chance(two, 1, part), no);
            }
            for (int n : new int[] {-1, 0, 3, 9, Integer.MIN_VALUE, Integer.MAX_VALUE}) {
                due("n " + n, x.chance(1, n, part), no);
            }
        }
        for (int part : new int[] {-1, 2, 10, Integer.MIN_VALUE, Integer.MAX_VALUE}) {
            due("part " + part, x.chance(1, 1, part), no);
        }
        due("of a new object", new RingOfStraw().chance(1, 1, 0), no);
    }

    // ---- promises 15, 16

    private static void knees() {
        Edge.of(15, "The least KNEE (0 .. 9) by which, had the one that, the other one would WIN; ");
        RingOfStraw x = Rings.by("weight", 10, 0);
        for (int other = 2; other < 13; other++) {
            x.put(1, 0, other);
            due("10 against " + other, x.knees(1, P, P), other > 10 ? 0 : 11 - other);
        }
        x.put(0, 2, 9);
        due("his own knee is not asked for", x.knees(1, P, P), 0);
        x.put(1, 0, 5);
        due("his own knee is not asked for", x.knees(1, P, P), 6);
        due("it stays", x.told(0, 2), 9);
        x.put(1, 2, 2);
        due("the other one's knee counts", x.knees(1, P, P), 8);
        RingOfStraw late = Rings.by("act", 0, 0);
        due("by one cell behind the last second", late.knees(1, Checks.plan("PPPPPPPPL"), Checks.plan("PPPPPPPPH")), 3);
        due("by one cell behind the last second", late.knees(1, Checks.plan("PPPPPPPPH"), Checks.plan("PPPPPPPPL")), 0);
        Edge.of(15, "-1: none. ");
        x.put(1, 2, 0);
        x.put(1, 0, 1);
        due("nobody would win by 9", x.knees(1, P, P), -1);
        x.put(1, 0, 0);
        due("the one would always win", x.knees(1, P, P), -1);
        due("nobody would ever win", x.knees(1, A, A), -1);
        Edge.of(15, "-5: no such two; ");
        for (int two : new int[] {0, 11, 2, 20, -1, 56, Integer.MIN_VALUE, Integer.MAX_VALUE}) {
            due("knees(" + two + ", ..)", x.knees(two, 0, 0), -5);
            due("ahead of -7", x.knees(two, -1, 0), -5);
        }
        Edge.of(15, "-7: a PLAN.");
        noPlans((a, b) -> x.knees(1, a, b));
    }

    private static void beats() {
        Edge.of(16, "WRESTLERS (bits) against whom one, as the one of the west, WINS by planA, they having planB. ");
        RingOfStraw x = Rings.by("weight", 10, 10, 9, 11, 0, 20);
        due("of 10", x.beats(0, P, P), 4 + 16);
        due("of 20, all but himself", x.beats(5, P, P), 31);
        due("of 0, nobody", x.beats(4, P, P), 0);
        due("of 0 against aside of a hold, nobody", x.beats(4, H, A), 0);
        due("of 10 against aside of a hold", x.beats(0, H, A), 62);
        due("of 10 by aside of a push: 20 against all", x.beats(0, A, P), 30);
        due("of 10 by a push against aside", x.beats(0, P, A), 16);
        due("of a single one", Rings.by("1", 5).beats(0, P, P), 0);
        RingOfStraw late = Rings.by("act", 0, 0, 0);
        due("by one cell behind the last second", late.beats(1, Checks.plan("PPPPPPPPH"), P), 5);
        due("who loses by one cell", late.beats(1, P, Checks.plan("PPPPPPPPH")), 0);
        Edge.of(16, "-5: no such WRESTLER; ");
        for (int m : new int[] {-1, 6, 7, Integer.MIN_VALUE, Integer.MAX_VALUE}) {
            due("beats(" + m + ", ..)", x.beats(m, 0, 0), -5);
            due("ahead of -7", x.beats(m, -1, 0), -5);
        }
        due("of a new object", new RingOfStraw().beats(0, 0, 0), -5);
        Edge.of(16, "-7: a PLAN.");
        noPlans((a, b) -> x.beats(0, a, b));
        RingOfStraw alone = Rings.by("1", 5);
        noPlans((a, b) -> alone.beats(0, a, b));
        Rings.knee(x, 0, 0, 0, 0);
    }

    // ---- promise 17

    private static void meet() {
        Edge.of(17, "n (1 .. 9) DAYS, truly, a SHEET telling a PLAN of each WRESTLER: ");
        for (int n = 1; n <= 9; n += 8) {
            for (int sort = 0; sort < 3; sort++) {
                RingOfStraw x = Rings.by("act", 0, 0);
                x.sheet(3, sort, 2);
                x.cell(3, 1, 3 + 12 + 48);
                due("meet of " + n + " by sort " + sort, x.meet(3, n), 1);
                Rings.knee(x, 1, 0, n, 0);
                Rings.knee(x, 0, 0, 0, n);
            }
        }
        RingOfStraw plans = Rings.by("act * 2", 0, 0, 0);
        Checks.sheet(plans, 0, H, 262143, 0);
        due("each his own plan", plans.meet(0, 1), 1);
        Rings.knee(plans, 0, 1, 1, 1);
        Rings.knee(plans, 1, 0, 2, 0);
        Rings.knee(plans, 2, 2, 0, 2);
    }

    private static void meetOrder() {
        Edge.of(17, "in each all two have a BOUT, truly, the lesser of the west, in order (0 and 1, 0 and 2, ..); ");
        // By the knee that the first bout leaves 0 loses the second one, too.
        RingOfStraw x = Rings.by("weight", 10, 11, 10);
        Checks.sheet(x, 0, P, P, P);
        due("meet", x.meet(0, 1), 1);
        Rings.knee(x, 0, 2, 0, 2);
        Rings.knee(x, 1, 0, 2, 0);
        Rings.knee(x, 2, 1, 1, 1);
        // Both have a knee from 0 when 1 meets 2.
        RingOfStraw y = Rings.by("weight", 20, 10, 10);
        Checks.sheet(y, 0, P, P, P);
        due("meet", y.meet(0, 1), 0);
        Rings.knee(y, 0, 0, 2, 0);
        Rings.knee(y, 1, 1, 0, 1);
        Rings.knee(y, 2, 1, 0, 1);
        RingOfStraw six = Rings.by("weight", 60, 50, 40, 30, 20, 10);
        Checks.sheet(six, 0, P, P, P, P, P, P);
        due("meet of six", six.meet(0, 1), 0);
        for (int m = 0; m < 6; m++) {
            Rings.knee(six, m, m, 5 - m, m);
        }
        RingOfStraw alone = Rings.by("weight", 1);
        Checks.sheet(alone, 0, P);
        due("meet of one", alone.meet(0, 9), 0);
        Rings.knee(alone, 0, 0, 0, 0);
        // What a day leaves behind counts in the next one: 10 less two knees is less than 9.
        RingOfStraw next = Rings.by("weight", 12, 10, 9);
        Checks.sheet(next, 0, P, P, P);
        next.meet(0, 1);
        Rings.knee(next, 1, 1, 1, 1);
        Rings.knee(next, 2, 2, 0, 2);
        next.meet(0, 8);
        Rings.knee(next, 1, 9, 9, 9);
        Edge.of(17, "DAYS is 1 more: ");
        RingOfStraw days = Rings.by("weight", 1);
        Checks.sheet(days, 0, P);
        for (int n = 1; n <= 9; n++) {
            days.meet(0, n);
            due("DAYS", days.count(1), n * (n + 1) / 2);
        }
    }

    private static void meetLeader() {
        Edge.of(17, "who has most WINS then, of like ones the first; ");
        RingOfStraw x = Rings.by("weight", 10, 10, 5, 5);
        Checks.sheet(x, 0, P, P, P, P);
        due("the first of two", x.meet(0, 1), 0);
        x.fight(1, 2, P, P);
        due("the second one has more", x.meet(0, 1), 1);
        RingOfStraw none = Rings.by("0", 0, 0, 0);
        Checks.sheet(none, 0, P, P, P);
        due("nobody has won", none.meet(0, 9), 0);
        RingOfStraw last = Rings.by("weight", 1, 2, 3, 4, 5, 6);
        Checks.sheet(last, 0, P, P, P, P, P, P);
        due("the last one", last.meet(0, 1), 5);
        Edge.of(17, "-1: there are none. ");
        RingOfStraw nobody = new RingOfStraw();
        nobody.sheet(0, 0, 0);
        due("nobody", nobody.meet(0, 3), -1);
        due("DAYS", nobody.count(1), 3);
    }

    private static void meetRefused() {
        RingOfStraw x = Rings.by("weight", 30, 0);
        Edge.of(17, "BAD: SHEET; ");
        for (int s : new int[] {-1, 4, 5, Integer.MIN_VALUE, Integer.MAX_VALUE}) {
            due("meet(" + s + ", 1)", x.meet(s, 1), -2);
            due("ahead of -7", x.meet(s, 0), -2);
        }
        Edge.of(17, "-11; ");
        for (int s = 0; s < 4; s++) {
            due("meet(" + s + ", 1)", x.meet(s, 1), -11);
            due("ahead of -7", x.meet(s, 10), -11);
        }
        Edge.of(17, "BAD: it tells not as many as there are WRESTLERS, no PLAN; ");
        for (int size : new int[] {0, 1, 3, 6, 40}) {
            x.sheet(0, 2, size);
            due("of " + size, x.meet(0, 1), -2);
            due("ahead of -7", x.meet(0, 0), -2);
        }
        for (int none : new int[] {-1, 262144, Integer.MIN_VALUE, Integer.MAX_VALUE}) {
            Checks.sheet(x, 0, none, 0);
            due("the first " + none, x.meet(0, 1), -2);
            Checks.sheet(x, 0, 0, none);
            due("the last " + none, x.meet(0, 1), -2);
            due("ahead of -7", x.meet(0, 10), -2);
        }
        Edge.of(17, "-7: n; ");
        Checks.sheet(x, 0, 262143, 0);
        for (int n : new int[] {-1, 0, 10, 11, Integer.MIN_VALUE, Integer.MAX_VALUE}) {
            due("n " + n, x.meet(0, n), -7);
        }
        due("DAYS", x.count(1), 0);
        Rings.knee(x, 0, 0, 0, 0);
        Rings.knee(x, 1, 0, 0, 0);
    }

    private static void meetFull() {
        Edge.of(17, "FULL: DAYS would be above 999.");
        RingOfStraw x = Rings.by("weight", 30, 0);
        Checks.sheet(x, 0, P, P);
        for (int i = 0; i < 110; i++) {
            x.meet(0, 9);
        }
        due("990", x.count(1), 990);
        due("one more", x.meet(0, 1), 0);
        due("nine more", x.meet(0, 9), -4);
        Rings.knee(x, 0, 0, 991, 0);
        due("991", x.count(1), 991);
        due("eight more", x.meet(0, 8), 0);
        due("999", x.count(1), 999);
        due("one more", x.meet(0, 1), -4);
        due("nine more", x.meet(0, 9), -4);
        Rings.knee(x, 0, 0, 999, 0);
        due("-7 ahead of FULL", x.meet(0, 0), -7);
        due("-7 ahead of FULL", x.meet(0, 10), -7);
        Checks.sheet(x, 1, P, -1);
        due("BAD ahead of FULL", x.meet(1, 1), -2);
        due("-11 ahead of FULL", x.meet(2, 1), -11);
        due("in thought they aren't", x.run(0, 9, 0), 0);
    }

    // ---- promise 18

    private static void run() {
        Edge.of(18, "n (0 .. 9) such DAYS, in thought: ");
        RingOfStraw x = Rings.by("weight", 10, 20, 10);
        Checks.sheet(x, 0, P, P, P);
        for (int n = 0; n <= 9; n++) {
            due("WINS behind " + n, x.run(0, n, 11), 2 * n);
        }
        for (int m = 0; m < 3; m++) {
            Rings.knee(x, m, 0, 0, 0);
        }
        due("DAYS", x.count(1), 0);
        Edge.of(18, "that one (what 0), ");
        due("nobody has won", x.run(0, 0, 0), 0);
        due("behind a day", x.run(0, 1, 0), 1);
        x.fight(2, 0, A, P);
        due("who has won", x.run(0, 0, 0), 2);
        RingOfStraw nobody = new RingOfStraw();
        nobody.sheet(0, 2, 0);
        due("nobody", nobody.run(0, 0, 0), -1);
        due("nobody", nobody.run(0, 9, 0), -1);
        Edge.of(18, "WINS of WRESTLER what less 10 then (10 ..). ");
        due("now", x.run(0, 0, 12), 1);
        due("now", x.run(0, 0, 10), 0);
        // 10 less the knee of that fight is less than 10 less none.
        due("then", x.run(0, 1, 12), 2);
        due("then", x.run(0, 1, 10), 0);
        x.meet(0, 1);
        due("truly", x.told(2, 3), 2);
    }

    private static void runRefused() {
        RingOfStraw x = Rings.by("weight", 30, 0);
        Edge.of(18, "BAD, -11, BAD likewise; ");
        for (int s : new int[] {-1, 4, Integer.MIN_VALUE, Integer.MAX_VALUE}) {
            due("run(" + s + ", 1, 0)", x.run(s, 1, 0), -2);
            due("ahead of -7", x.run(s, -1, 9), -2);
        }
        due("missing", x.run(0, 1, 0), -11);
        due("ahead of -7", x.run(0, -1, 9), -11);
        for (int size : new int[] {0, 1, 3, 40}) {
            x.sheet(0, 2, size);
            due("of " + size, x.run(0, 1, 0), -2);
            due("ahead of -7", x.run(0, 10, 0), -2);
        }
        for (int none : new int[] {-1, 262144, Integer.MIN_VALUE}) {
            Checks.sheet(x, 0, none, 0);
            due("the first " + none, x.run(0, 0, 0), -2);
            Checks.sheet(x, 0, 0, none);
            due("the last " + none, x.run(0, 1, 0), -2);
            due("ahead of -7", x.run(0, 1, 12), -2);
        }
        Edge.of(18, "-7: n, what, no such WRESTLER.");
        Checks.sheet(x, 0, 0, 262143);
        for (int n : new int[] {-1, 10, Integer.MIN_VALUE, Integer.MAX_VALUE}) {
            due("n " + n, x.run(0, n, 0), -7);
        }
        for (int what : new int[] {-1, 1, 2, 9, 12, 15, 16, Integer.MIN_VALUE, Integer.MAX_VALUE}) {
            due("what " + what, x.run(0, 1, what), -7);
        }
        due("the last one", x.run(0, 1, 11), 0);
    }
}
