/** Promises 12 to 18: the soonest plan, the surest one, chances, knees, who beats whom, days. */
public final class BestTest {
    private static final int P = Checks.plan("P"), H = Checks.plan("H"), A = Checks.plan("A"), L = Checks.plan("L");

    private static void due(String call, long got, long want) {
        Checks.due(call, got, want);
    }

    private static RingOfStraw ring(String force, int... weights) {
        RingOfStraw x = Checks.ringBy("force " + force + " ; stands 0 ; ahead 0 ;");
        for (int weight : weights) {
            x.man(0, 100 * weight);
        }
        return x;
    }

    private static void best(RingOfStraw x, int twoMen, int planB, int n, int plan, int seconds) {
        due("best(.., " + n + ", 0)", x.best(twoMen, planB, n, 0), plan);
        due("best(.., " + n + ", 1)", x.best(twoMen, planB, n, 1), seconds);
    }

    private static void best() {
        RingOfStraw x = ring("weight * act", 10, 0);
        best(x, 1, P, 1, 2, 2);
        best(x, 1, P, 2, 10, 2);
        best(x, 1, P, 3, 10, 2);
        best(x, 1, H, 1, 3, 2);
        best(x, 1, H, 2, 15, 2);
        best(x, 1, H, 3, 15, 2);
        best(x, 10, P, 1, -1, -1);
        best(x, 10, P, 3, -1, -1);
        due("the one stays", x.told(0, 3), 0);
        RingOfStraw w = ring("weight", 20, 10);
        best(w, 1, H, 1, 0, 4);
        best(w, 1, A, 1, 1, 4);
        best(w, 1, A, 2, 5, 4);
        RingOfStraw y = ring("act", 0, 0);
        best(y, 1, Checks.plan("LLLLPPPPP"), 1, 3, 8);
        best(y, 1, Checks.plan("LLLHHHHHH"), 1, 3, 7);
        best(y, 1, Checks.plan("L"), 3, -1, -1);
        best(y, 1, Checks.plan("PPPHHHHHH"), 3, 1 + 4 + 48, 4);
        // Won by the cell behind the last second alone.
        best(y, 1, Checks.plan("HHLLLLLLL"), 1, 3, 9);
        best(y, 1, Checks.plan("PHLLLLLLL"), 2, 12, 9);
        best(y, 1, Checks.plan("PPLLLLLLL"), 2, 12, 9);
        best(y, 1, Checks.plan("PLLLLLLLL"), 2, 13, 9);
    }

    private static void refusalsOfBest() {
        RingOfStraw x = ring("weight * act", 10, 0);
        due("best, no two", x.best(2, -1, 0, 2), -5);
        due("best, the same", x.best(11, 0, 1, 0), -5);
        due("best, plan", x.best(1, -1, 1, 0), -7);
        due("best, plan", x.best(1, 262144, 1, 0), -7);
        due("best, n 0", x.best(1, 0, 0, 0), -7);
        due("best, n 4", x.best(1, 0, 4, 0), -7);
        due("best, n far out", x.best(1, 0, Integer.MAX_VALUE, 0), -7);
        due("best, what", x.best(1, 0, 1, 2), -7);
        due("best, what", x.best(1, 0, 1, -1), -7);
    }

    private static void sureAndChance() {
        RingOfStraw x = ring("act", 0, 0);
        due("sure(1, 1, 0)", x.sure(1, 1, 0), 3);
        due("sure(1, 1, 1)", x.sure(1, 1, 1), 3);
        due("chance(1, 1, 0)", x.chance(1, 1, 0), 3);
        due("chance(1, 1, 1)", x.chance(1, 1, 1), 8);
        due("sure(1, 2, 0)", x.sure(1, 2, 0), 15);
        due("sure(1, 2, 1)", x.sure(1, 2, 1), 15);
        due("chance(1, 2, 0)", x.chance(1, 2, 0), 15);
        due("chance(1, 2, 1)", x.chance(1, 2, 1), 32);
        RingOfStraw even = ring("1", 0, 0);
        due("sure, of like ones the least", even.sure(1, 1, 0), 1);
        due("sure, of like ones the least", even.sure(1, 1, 1), 1);
        RingOfStraw weak = ring("weight", 0, 9);
        due("sure, none wins", weak.sure(1, 1, 0), 0);
        due("sure, none wins", weak.sure(1, 1, 1), 0);
        due("sure, none wins", weak.sure(1, 2, 0), 0);
        due("chance, none wins", weak.chance(1, 2, 0), 0);
        due("chance, none wins", weak.chance(1, 2, 1), 1);
        RingOfStraw strong = ring("knee", 0, 0);
        strong.man(59, 0);
        due("sure of the sly", strong.sure(20, 1, 1), 3);
        RingOfStraw bull = Checks.ringBy("force 0 ; stands 0 ; ahead 0 ;");
        bull.man(30, 0);
        bull.man(0, 0);
        due("chance 1", bull.chance(1, 1, 0), 1);
        due("chance 1", bull.chance(1, 1, 1), 1);
        due("sure 16", bull.sure(1, 2, 1), 16);
        due("sure 16", bull.sure(1, 2, 0), 0);
        due("chance of the other one", bull.chance(10, 2, 0), 0);
    }

    private static void refusalsOfSureAndChance() {
        RingOfStraw x = ring("act", 0, 0);
        due("sure, no two", x.sure(12, 0, 2), -5);
        due("sure, no two", x.sure(-1, 1, 0), -5);
        due("sure, n 0", x.sure(1, 0, 0), -7);
        due("sure, n 3", x.sure(1, 3, 0), -7);
        due("sure, what", x.sure(1, 1, 2), -7);
        due("sure, what", x.sure(1, 1, -1), -7);
        due("chance, no two", x.chance(0, 1, 0), RingOfStraw.NO);
        due("chance, no two", x.chance(2, 1, 0), RingOfStraw.NO);
        due("chance, n 0", x.chance(1, 0, 0), RingOfStraw.NO);
        due("chance, n 3", x.chance(1, 3, 0), RingOfStraw.NO);
        due("chance, part", x.chance(1, 1, 2), RingOfStraw.NO);
        due("chance, part", x.chance(1, 1, -1), RingOfStraw.NO);
    }

    private static void knees() {
        RingOfStraw x = ring("weight", 10, 8, 0, 20, 1);
        due("knees(01)", x.knees(1, P, P), 3);
        x.put(0, 2, 5);
        due("knees(01)", x.knees(1, P, P), 3);
        due("told(0, 2)", x.told(0, 2), 5);
        due("knees(02)", x.knees(2, P, P), -1);
        due("knees(03)", x.knees(3, P, P), 0);
        due("knees(04)", x.knees(4, P, P), -1);
        x.put(4, 0, 2);
        due("knees(04)", x.knees(4, P, P), 9);
        due("knees(10)", x.knees(10, P, P), 4);
        due("knees(01), aside", x.knees(1, A, H), 0);
        RingOfStraw y = Checks.ringBy("force weight + knee * 3 ; stands 0 ; ahead 0 - knee ;");
        y.man(0, 0);
        y.man(0, 0);
        due("knees by a text that asks for it", y.knees(1, P, P), -1);
        due("knees, no two", x.knees(5, -1, 0), -5);
        due("knees, plan", x.knees(1, -1, 0), -7);
        due("knees, plan", x.knees(1, 0, 262144), -7);
    }

    private static void beats() {
        RingOfStraw x = ring("weight", 10, 8, 0, 20, 10, 9);
        due("beats(0)", x.beats(0, P, P), 2 + 4 + 32);
        due("beats(3)", x.beats(3, P, P), 1 + 2 + 4 + 16 + 32);
        due("beats(2)", x.beats(2, P, P), 0);
        due("beats(2) aside", x.beats(2, P, A), 0);
        due("beats(1) against aside", x.beats(1, H, A), 1 + 4 + 8 + 16 + 32);
        due("beats(5)", x.beats(5, P, P), 2 + 4);
        due("told(0, 3)", x.told(0, 3), 0);
        due("beats(6)", x.beats(6, -1, 0), -5);
        due("beats(-1)", x.beats(-1, 0, 0), -5);
        due("beats, plan", x.beats(0, -1, 0), -7);
        due("beats, plan", x.beats(0, 0, 262144), -7);
        RingOfStraw late = ring("act", 0, 0);
        due("beats by one cell", late.beats(0, Checks.plan("LLLLLLLLH"), Checks.plan("LLLLLLLLP")), 2);
        // The one is the one of the west: his side alone is asked for by planA.
        RingOfStraw y = ring("act", 0, 0, 0);
        due("beats by pull", y.beats(1, L, H), 5);
        due("beats by push", y.beats(1, P, H), 0);
    }

    private static void tells(RingOfStraw x, int m, int knee, int wins, int losses) {
        due("knee of " + m, x.told(m, 2), knee);
        due("wins of " + m, x.told(m, 3), wins);
        due("losses of " + m, x.told(m, 4), losses);
    }

    private static void meet() {
        RingOfStraw x = ring("weight", 10, 20, 15);
        Checks.sheet(x, 1, P, P, P);
        due("run(1, 1, 0)", x.run(1, 1, 0), 1);
        due("run(1, 1, 11)", x.run(1, 1, 11), 2);
        due("run(1, 9, 12)", x.run(1, 9, 12), 9);
        due("run(1, 0, 0)", x.run(1, 0, 0), 0);
        tells(x, 0, 0, 0, 0);
        due("count(1)", x.count(1), 0);
        due("meet(1, 1)", x.meet(1, 1), 1);
        tells(x, 0, 2, 0, 2);
        tells(x, 1, 0, 2, 0);
        tells(x, 2, 1, 1, 1);
        due("count(1)", x.count(1), 1);
        due("run(1, 0, 0)", x.run(1, 0, 0), 1);
        due("run(1, 0, 12)", x.run(1, 0, 12), 1);
        due("meet(1, 3)", x.meet(1, 3), 1);
        tells(x, 0, 8, 0, 8);
        tells(x, 1, 0, 8, 0);
        tells(x, 2, 4, 4, 4);
        due("count(1)", x.count(1), 4);
    }

    /** What the first bouts of a day leave behind counts in its next ones, and each has his own plan. */
    private static void order() {
        RingOfStraw x = ring("weight", 10, 10, 9);
        Checks.sheet(x, 0, P, P, P);
        due("meet(0, 2)", x.meet(0, 2), 0);
        tells(x, 0, 0, 2, 0);
        tells(x, 1, 0, 2, 0);
        tells(x, 2, 4, 0, 4);
        RingOfStraw y = ring("weight", 10, 11, 10);
        Checks.sheet(y, 0, P, P, P);
        // 0 loses to 1, and by that knee to 2, who loses to 1.
        due("run(0, 1, 0)", y.run(0, 1, 0), 1);
        due("run(0, 1, 12)", y.run(0, 1, 12), 1);
        due("run(0, 1, 10)", y.run(0, 1, 10), 0);
        RingOfStraw z = ring("act", 0, 0, 0);
        Checks.sheet(z, 0, P, L, H);
        due("meet(0, 1)", z.meet(0, 1), 1);
        tells(z, 0, 2, 0, 2);
        tells(z, 1, 0, 2, 0);
        tells(z, 2, 1, 1, 1);
    }

    private static void refusalsOfMeet() {
        RingOfStraw x = ring("weight", 10, 20);
        due("meet, sheet -1", x.meet(-1, 99), -2);
        due("meet, sheet 4", x.meet(4, 99), -2);
        due("meet, missing", x.meet(0, 99), -11);
        due("run, sheet -1", x.run(-1, 99, 9), -2);
        due("run, sheet 4", x.run(4, 99, 9), -2);
        due("run, missing", x.run(0, 99, 9), -11);
        for (int size = 0; size < 4; size++) {
            x.sheet(0, 2, size);
            due("meet by " + size, x.meet(0, 99), size == 2 ? -7 : -2);
            due("run by " + size, x.run(0, 99, 9), size == 2 ? -7 : -2);
        }
        Checks.sheet(x, 0, 0, 262144);
        due("meet, no plan", x.meet(0, 99), -2);
        due("run, no plan", x.run(0, 99, 9), -2);
        Checks.sheet(x, 0, -1, 0);
        due("meet, no plan", x.meet(0, 99), -2);
        Checks.sheet(x, 0, 262143, 0);
        due("meet, n 0", x.meet(0, 0), -7);
        due("meet, n 10", x.meet(0, 10), -7);
        due("meet, n -1", x.meet(0, -1), -7);
        due("run, n -1", x.run(0, -1, 0), -7);
        due("run, n 10", x.run(0, 10, 0), -7);
        for (int what : new int[] {-1, 1, 9, 12, 16, Integer.MAX_VALUE, Integer.MIN_VALUE}) {
            due("run, what " + what, x.run(0, 1, what), -7);
        }
        due("count(1)", x.count(1), 0);
    }

    private static void days() {
        RingOfStraw x = new RingOfStraw();
        x.sheet(0, 0, 0);
        due("meet, nobody", x.meet(0, 9), -1);
        due("run, nobody", x.run(0, 9, 0), -1);
        due("run, nobody", x.run(0, 9, 10), -7);
        for (int i = 1; i < 110; i++) {
            x.meet(0, 9);
        }
        due("count(1)", x.count(1), 990);
        due("meet(0, 5)", x.meet(0, 5), -1);
        due("meet(0, 5)", x.meet(0, 5), -4);
        due("count(1)", x.count(1), 995);
        due("meet(0, 10)", x.meet(0, 10), -7);
        due("run(0, 9, 0)", x.run(0, 9, 0), -1);
        due("meet(0, 4)", x.meet(0, 4), -1);
        due("count(1)", x.count(1), 999);
        due("meet(0, 1)", x.meet(0, 1), -4);
    }

    /** Days by sheets of each sort: a plan of bytes and shorts too. */
    private static void sorts() {
        for (int sort = 0; sort < 3; sort++) {
            RingOfStraw x = ring("act", 0, 0);
            x.sheet(2, sort, 2);
            x.cell(2, 1, 21);
            due("run by sort " + sort, x.run(2, 1, 0), 1);
            due("run by sort " + sort, x.run(2, 1, 11), 1);
            x.cell(2, 0, 65535);
            due("run by -1 of bytes and shorts", x.run(2, 1, 11), sort < 2 ? -2 : 0);
        }
    }

    public static void main(String[] args) {
        best();
        refusalsOfBest();
        sureAndChance();
        refusalsOfSureAndChance();
        knees();
        beats();
        meet();
        order();
        refusalsOfMeet();
        days();
        sorts();
        Checks.end();
    }
}
