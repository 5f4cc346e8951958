/** Promises 10 and 11, and what kinds make of a text: bouts second by second, in thought and truly. */
public final class BoutTest {
    private static final int PUSH = 0, HOLD = 1, ASIDE = 2, PULL = 3;
    private static final int[] ALWAYS = {Checks.plan("P"), Checks.plan("H"), Checks.plan("A"), Checks.plan("L")};

    private static void due(String call, long got, long want) {
        Checks.due(call, got, want);
    }

    private static RingOfStraw byWeight(int stands) {
        return Checks.ringBy("force weight ; stands " + stands + " ; ahead 0 ;");
    }

    private static void cells(RingOfStraw x, int twoMen, String planA, String planB, int... want) {
        for (int i = 0; i < 10; i++) {
            int due = want[Math.min(i, want.length - 1)];
            due("cell behind " + i, x.bout(twoMen, Checks.plan(planA), Checks.plan(planB), 10 + i), due);
        }
        due("seconds", x.bout(twoMen, Checks.plan(planA), Checks.plan(planB), 1), want.length - 1);
    }

    private static void winner(RingOfStraw x, int twoMen, String planA, String planB, int want) {
        due("winner", x.bout(twoMen, Checks.plan(planA), Checks.plan(planB), 0), want);
    }

    private static void steps() {
        RingOfStraw x = byWeight(0);
        x.man(0, 3000);
        x.man(0, 1000);
        cells(x, 1, "P", "P", 4, 5, 6, 7, 8);
        winner(x, 1, "P", "P", 0);
        cells(x, 10, "P", "P", 4, 3, 2, 1, 0);
        winner(x, 10, "P", "P", 0);
        x.put(0, 0, 31);
        cells(x, 1, "P", "P", 4, 6, 8);
        cells(x, 10, "P", "P", 4, 2, 0);
        x.put(0, 0, 10);
        cells(x, 1, "P", "P", 4, 4, 4, 4, 4, 4, 4, 4, 4, 4);
        winner(x, 1, "P", "P", -1);
        x.put(0, 0, 11);
        cells(x, 1, "P", "P", 4, 5, 6, 7, 8);
        x.put(0, 2, 2);
        cells(x, 1, "P", "P", 4, 3, 2, 1, 0);
        winner(x, 1, "P", "P", 1);
    }

    private static void straw() {
        RingOfStraw x = byWeight(2);
        x.man(0, 3000);
        x.man(0, 1000);
        cells(x, 1, "P", "P", 4, 5, 6, 7, 7, 7, 8);
        cells(x, 10, "P", "P", 4, 3, 2, 1, 1, 1, 0);
        x.put(0, 0, 99);
        cells(x, 1, "P", "P", 4, 6, 7, 7, 8);
        cells(x, 10, "P", "P", 4, 2, 1, 1, 0);
    }

    /** Each stands for himself, and what has been stood isn't there again when he comes back to the straw. */
    private static void straws() {
        RingOfStraw x = Checks.ringBy("force act*10 ; stands 1 ; ahead 0 ;");
        x.man(0, 0);
        x.man(0, 0);
        cells(x, 1, "LLPPPPLLL", "PPLLLLPPP", 4, 6, 7, 5, 3, 1, 1, 3, 5, 7);
        cells(x, 1, "LLPPPPPPP", "PPLLLLLLL", 4, 6, 7, 5, 3, 1, 1, 0);
        cells(x, 1, "LLPLLLLLL", "PPLPPPPPP", 4, 6, 7, 5, 7, 8);
        cells(x, 1, "LLPPPPLLL", "PPLLLLPPL", 4, 6, 7, 5, 3, 1, 1, 3, 5, 5);
        winner(x, 1, "LLPPPPLLL", "PPLLLLPPL", 0);
    }

    private static void end() {
        RingOfStraw x = Checks.ringBy("force act ; stands 0 ; ahead 0 ;");
        x.man(0, 0);
        x.man(0, 0);
        cells(x, 1, "PPPPPPPPH", "PPPPPPPPP", 4, 4, 4, 4, 4, 4, 4, 4, 4, 5);
        winner(x, 1, "PPPPPPPPH", "PPPPPPPPP", 0);
        winner(x, 1, "PPPPPPPPP", "PPPPPPPPH", 1);
        winner(x, 10, "PPPPPPPPP", "PPPPPPPPH", 0);
        winner(x, 1, "PHPPPPPPP", "HPPPPPPPP", -1);
        cells(x, 1, "PPPPPHHHH", "P", 4, 4, 4, 4, 4, 4, 5, 6, 7, 8);
        winner(x, 1, "PPPPPHHHH", "P", 0);
        cells(x, 1, "PLHAPPPPP", "HPPPLLLLL", 4, 3, 4, 5, 6, 5, 4, 3, 2, 1);
    }

    /** The cell behind one second is 4 for just one weight of the plain other one: as much as the kind forces. */
    private static void forces(int kindMore, int weight, int act, int his, int want) {
        RingOfStraw x = byWeight(0);
        x.man(kindMore, 100 * weight);
        x.man(0, 0);
        for (int other = 0; other < 100; other++) {
            x.put(1, 0, other);
            int otherForces = his != ASIDE ? other : act == PUSH ? 2 * other : 0;
            int difference = want - otherForces;
            int steps = Math.abs(difference) > 20 ? 2 : Math.abs(difference) > 0 ? 1 : 0;
            // A bull starts 1 further.
            int start = kindMore / 10 == 3 ? 5 : 4;
            int cell = Math.max(0, Math.min(8, start + Integer.signum(difference) * steps));
            due("kindMore " + kindMore + ", act " + act + ", his " + his + " against " + other,
                x.bout(1, ALWAYS[act], ALWAYS[his], 11), cell);
        }
    }

    private static void wrestlerAndPusher() {
        forces(9, 40, PUSH, PUSH, 40);
        forces(9, 40, PUSH, ASIDE, 40);
        forces(9, 40, HOLD, PULL, 40);
        forces(9, 40, PULL, HOLD, 40);
        forces(9, 40, ASIDE, PUSH, 80);
        forces(9, 40, ASIDE, HOLD, 0);
        forces(9, 40, ASIDE, ASIDE, 0);
        forces(9, 40, ASIDE, PULL, 0);
        forces(14, 40, PUSH, PUSH, 52);
        forces(14, 40, PUSH, ASIDE, 52);
        forces(14, 40, HOLD, PUSH, 40);
        forces(14, 40, PULL, PULL, 40);
        forces(14, 40, ASIDE, PUSH, 80);
        forces(14, 40, ASIDE, PULL, 0);
        forces(10, 40, PUSH, PUSH, 40);
    }

    private static void holderAndTree() {
        for (int kind = 20; kind <= 40; kind += 20) {
            forces(kind + 7, 41, PUSH, PUSH, 20);
            forces(kind + 7, 41, PULL, HOLD, 20);
            forces(kind + 7, 41, HOLD, PUSH, 46);
            forces(kind + 7, 41, HOLD, ASIDE, 46);
            forces(kind + 7, 41, ASIDE, PUSH, 41);
            forces(kind + 7, 41, ASIDE, HOLD, 0);
        }
    }

    private static void bullAndSly() {
        forces(34, 40, PUSH, PUSH, 52);
        forces(34, 40, PUSH, HOLD, 52);
        forces(34, 40, PUSH, ASIDE, 0);
        forces(34, 40, HOLD, ASIDE, 0);
        forces(34, 40, HOLD, PULL, 40);
        forces(34, 40, ASIDE, PUSH, 80);
        forces(57, 41, PUSH, PUSH, 20);
        forces(57, 41, HOLD, HOLD, 20);
        forces(57, 41, PULL, PULL, 20);
        forces(57, 41, ASIDE, ASIDE, 0);
        forces(57, 41, PUSH, HOLD, 48);
        forces(57, 41, PUSH, ASIDE, 48);
        forces(57, 41, ASIDE, PUSH, 89);
        forces(57, 41, ASIDE, HOLD, 7);
        forces(57, 41, PULL, PUSH, 48);
    }

    private static void standing(int kindMore, int stands, int... want) {
        RingOfStraw x = byWeight(stands);
        x.man(0, 9900);
        x.man(kindMore, 9000);
        x.put(0, 0, 98);
        // The one is 1 to 20 stronger than each kind that is told here.
        x.put(1, 0, kindMore / 10 == 2 || kindMore / 10 == 4 ? 80 : 90);
        cells(x, 1, "P", kindMore / 10 == 2 || kindMore / 10 == 4 ? "H" : "L", want);
    }

    private static void stands() {
        standing(0, 0, 4, 5, 6, 7, 8);
        standing(0, 1, 4, 5, 6, 7, 7, 8);
        standing(19, 1, 4, 5, 6, 7, 7, 8);
        standing(20, 1, 4, 5, 6, 7, 7, 7, 8);
        standing(29, 1, 4, 5, 6, 7, 7, 7, 8);
        standing(40, 1, 4, 5, 6, 7, 7, 7, 8);
        standing(42, 1, 4, 5, 6, 7, 7, 7, 7, 7, 8);
        standing(43, 1, 4, 5, 6, 7, 7, 7, 7, 7, 7, 8);
        standing(44, 1, 4, 5, 6, 7, 7, 7, 7, 7, 7, 7);
        standing(49, 5, 4, 5, 6, 7, 7, 7, 7, 7, 7, 7);
        standing(31, 1, 3, 4, 5, 6, 7, 7, 8);
    }

    private static void starts(String ahead, int kindA, int kindB, int want) {
        RingOfStraw x = Checks.ringBy("force 1 ; stands 0 ; ahead " + ahead + " ;");
        x.man(10 * kindA + 5, 200);
        x.man(10 * kindB + 5, 7);
        due("start by " + ahead, x.bout(1, 0, 0, 10), want);
    }

    private static void starts() {
        for (int kind = 0; kind < 6; kind++) {
            starts("2", kind, kind, 4);
        }
        starts("1", 3, 0, 5);
        starts("1", 0, 3, 3);
        starts("2", 4, 0, 2);
        starts("-1", 4, 0, 4);
        starts("-2", 4, 3, 3);
        starts("2", 3, 4, 7);
        starts("2", 4, 3, 1);
        starts("weight - pace", 0, 0, 7);
        starts("weight", 0, 0, 6);
        starts("pace", 0, 0, 2);
        starts("(weight = 2) * 2 - (pace = 7) * 2", 0, 0, 7);
        starts("(pace = 7) * 2 - (weight = 2) * 2", 0, 0, 1);
        starts("(weight = 2) * 2 - (pace = 7) * 2", 3, 0, 7);
        starts("(weight = 2) * (cell - 2)", 0, 0, 6);
        starts("(weight = 2) * (act + his)", 0, 0, 4);
        starts("(weight = 2) * knee", 0, 0, 4);
    }

    private static void names() {
        RingOfStraw x = Checks.ringBy("force cell * 10 ; stands 0 ; ahead pace ;");
        x.man(0, 0);
        x.man(0, 1);
        cells(x, 1, "P", "P", 3, 2, 0);
        cells(x, 10, "P", "P", 5, 6, 8);
        x.put(1, 1, 0);
        cells(x, 1, "P", "P", 4, 4, 4, 4, 4, 4, 4, 4, 4, 4);
        RingOfStraw y = Checks.ringBy("force (act = 1) * (his = 3) * 30 + weight ; stands act + his + cell ; ahead 0 ;");
        y.man(0, 0);
        y.man(0, 100);
        cells(y, 1, "H", "L", 4, 6, 8);
        cells(y, 1, "L", "H", 4, 2, 0);
        cells(y, 1, "H", "H", 4, 3, 2, 1, 0);
        RingOfStraw z = Checks.ringBy("force knee * 5 ; stands knee ; ahead knee ;");
        z.man(0, 0);
        z.man(0, 0);
        z.put(0, 2, 2);
        cells(z, 1, "P", "P", 6, 7, 8);
        z.put(1, 2, 1);
        cells(z, 1, "P", "P", 5, 6, 7, 7, 8);
    }

    private static void weakest() {
        RingOfStraw x = byWeight(0);
        x.man(0, 300);
        x.man(0, 0);
        x.put(0, 2, 9);
        cells(x, 1, "P", "P", 4, 4, 4, 4, 4, 4, 4, 4, 4, 4);
    }

    private static void refusalsOfBout() {
        RingOfStraw x = byWeight(0);
        x.man(0, 3000);
        x.man(0, 1000);
        for (int twoMen : new int[] {0, 11, 2, 20, 12, 21, -1, -10, 56, 100, 101, Integer.MAX_VALUE, Integer.MIN_VALUE}) {
            due("bout(" + twoMen + ", ..)", x.bout(twoMen, -1, 262144, 99), -5);
        }
        due("bout, plan -1", x.bout(1, -1, 0, 0), -7);
        due("bout, plan 262144", x.bout(1, 262144, 0, 0), -7);
        due("bout, other's plan -1", x.bout(1, 0, -1, 0), -7);
        due("bout, other's plan 262144", x.bout(1, 0, 262144, 0), -7);
        for (int what : new int[] {-1, 2, 9, 20, 21, Integer.MAX_VALUE, Integer.MIN_VALUE}) {
            due("bout(.., " + what + ")", x.bout(1, 0, 0, what), -7);
        }
        due("bout(1, 262143, 262143, 0)", x.bout(1, 262143, 262143, 0), 0);
        due("told(0, 3)", x.told(0, 3), 0);
        due("told(1, 4)", x.told(1, 4), 0);
        due("told(1, 2)", x.told(1, 2), 0);
    }

    private static void tells(RingOfStraw x, int m, int knee, int wins, int losses) {
        due("knee of " + m, x.told(m, 2), knee);
        due("wins of " + m, x.told(m, 3), wins);
        due("losses of " + m, x.told(m, 4), losses);
    }

    private static void fight() {
        RingOfStraw x = byWeight(0);
        x.man(0, 3000);
        x.man(0, 1000);
        x.man(0, 3000);
        due("fight(0, 1)", x.fight(0, 1, 0, 0), 0);
        tells(x, 0, 0, 1, 0);
        tells(x, 1, 1, 0, 1);
        due("fight(1, 0)", x.fight(1, 0, 0, 0), 0);
        tells(x, 0, 0, 2, 0);
        tells(x, 1, 2, 0, 2);
        due("fight(0, 2)", x.fight(0, 2, 0, 0), -1);
        tells(x, 0, 0, 2, 0);
        tells(x, 2, 0, 0, 0);
        for (int i = 0; i < 10; i++) {
            due("fight(0, 1)", x.fight(0, 1, 0, 0), 0);
        }
        tells(x, 1, 9, 0, 12);
        tells(x, 0, 0, 12, 0);
        due("count(1)", x.count(1), 0);
        due("fight(0, 0)", x.fight(0, 0, -1, 0), -5);
        due("fight(0, 3)", x.fight(0, 3, 0, 0), -5);
        due("fight(3, 0)", x.fight(3, 0, 0, 0), -5);
        due("fight(-1, 0)", x.fight(-1, 0, 0, 0), -5);
        due("fight(0, -1)", x.fight(0, -1, 0, 0), -5);
        due("fight, plan -1", x.fight(0, 1, -1, 0), -7);
        due("fight, plan 262144", x.fight(0, 1, 262144, 0), -7);
        due("fight, other's plan -1", x.fight(0, 1, 0, -1), -7);
        due("fight, other's plan 262144", x.fight(0, 1, 0, 262144), -7);
        tells(x, 1, 9, 0, 12);
    }

    /** A knee is worse behind four seconds, not behind five. */
    private static void knees() {
        RingOfStraw x = byWeight(1);
        x.man(0, 3000);
        x.man(0, 1000);
        due("seconds", x.bout(1, 0, 0, 1), 5);
        due("fight", x.fight(0, 1, 0, 0), 0);
        tells(x, 1, 0, 0, 1);
        RingOfStraw y = byWeight(0);
        y.man(0, 1000);
        y.man(0, 3000);
        due("seconds", y.bout(1, 0, 0, 1), 4);
        due("fight", y.fight(0, 1, 0, 0), 1);
        tells(y, 0, 1, 0, 1);
        tells(y, 1, 0, 1, 0);
        due("told(1, 0)", y.told(1, 0), 30);
    }

    /** Who is one cell ahead behind the last second WINS, too. */
    private static void byOneCell() {
        RingOfStraw x = Checks.ringBy("force act ; stands 0 ; ahead 0 ;");
        x.man(0, 0);
        x.man(0, 0);
        due("fight", x.fight(0, 1, Checks.plan("LLLLLLLLH"), Checks.plan("LLLLLLLLP")), 0);
        tells(x, 0, 0, 1, 0);
        tells(x, 1, 0, 0, 1);
        due("fight", x.fight(0, 1, Checks.plan("LLLLLLLLP"), Checks.plan("LLLLLLLLH")), 1);
        tells(x, 0, 0, 1, 1);
        tells(x, 1, 0, 1, 1);
    }

    private static void most() {
        RingOfStraw x = byWeight(0);
        x.man(0, 3000);
        x.man(0, 1000);
        Checks.sheet(x, 0, 0, 0);
        for (int i = 0; i < 111; i++) {
            x.meet(0, 9);
        }
        tells(x, 0, 0, 999, 0);
        tells(x, 1, 9, 0, 999);
        due("fight", x.fight(0, 1, 0, 0), 0);
        tells(x, 0, 0, 999, 0);
        tells(x, 1, 9, 0, 999);
    }

    public static void main(String[] args) {
        steps();
        straw();
        straws();
        end();
        wrestlerAndPusher();
        holderAndTree();
        bullAndSly();
        stands();
        starts();
        names();
        weakest();
        refusalsOfBout();
        fight();
        knees();
        byOneCell();
        most();
        Checks.end();
    }
}
