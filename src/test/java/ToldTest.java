/** Promises 19 to 25: told bouts. */
public final class ToldTest {
    private static final int P = Checks.plan("P"), H = Checks.plan("H"), A = Checks.plan("A"), L = Checks.plan("L");

    private static void due(String call, long got, long want) {
        Checks.due(call, got, want);
    }

    /** A pusher of MORE 2 and weight 10 (who forces 16), a wrestler of weight 12, one of weight 30. */
    private static RingOfStraw ring() {
        RingOfStraw x = Checks.ringBy("force weight ; stands 1 ; ahead 0 ;");
        x.man(12, 1000);
        x.man(0, 1200);
        x.man(0, 3000);
        return x;
    }

    private static void judge() {
        RingOfStraw x = ring();
        Checks.sheet(x, 0, 5, 6, 7, 7, 8, 8, 8, 8, 8);
        due("judge, all of it", x.judge(0, 1, P, P), -1);
        for (int n = 0; n <= 9; n++) {
            x.sheet(1, 2, n);
            due("copy", x.copy(0, 0, 1, 0, n), n);
            due("judge, the first " + n, x.judge(1, 1, P, P), -1);
        }
        for (int i = 8; i >= 0; i--) {
            x.cell(0, i, i < 4 ? 4 : 7);
            due("judge, otherwise at " + i, x.judge(0, 1, P, P), i);
        }
        Checks.sheet(x, 2);
        due("judge, nothing told", x.judge(2, 1, H, A), -1);
        Checks.sheet(x, 2, 3);
        due("judge, the other one wins", x.judge(2, 10, P, P), -1);
        due("judge, the one wins", x.judge(2, 1, P, P), 0);
        x.sheet(3, 1, 1);
        x.cell(3, 0, 65536 + 5);
        due("judge by shorts", x.judge(3, 1, P, P), -1);
    }

    private interface Asked {
        int by(int s, int twoMen, int planA, int planB);
    }

    private static void refusals(RingOfStraw x, Asked asked) {
        x.sheet(0, -1, 0);
        due("sheet -1", asked.by(-1, 0, -1, -1), -2);
        due("sheet 4", asked.by(4, 0, -1, -1), -2);
        due("missing", asked.by(0, 0, -1, -1), -11);
        x.sheet(0, 0, 10);
        due("more than 9", asked.by(0, 0, -1, -1), -2);
        x.sheet(0, 0, 9);
        for (int twoMen : new int[] {0, 22, 3, 30, -1, -12, 56, 99, Integer.MIN_VALUE, Integer.MAX_VALUE}) {
            due("no two " + twoMen, asked.by(0, twoMen, -1, -1), -5);
        }
        due("plan -1", asked.by(0, 1, -1, 0), -7);
        due("plan 262144", asked.by(0, 1, 262144, 0), -7);
        due("other's plan -1", asked.by(0, 1, 0, -1), -7);
        due("other's plan 262144", asked.by(0, 1, 0, 262144), -7);
    }

    private static void refusals() {
        RingOfStraw x = ring();
        refusals(x, (s, two, a, b) -> x.judge(s, two, a, b));
        refusals(x, (s, two, a, b) -> x.kinds(s, two, a, b, 3));
        refusals(x, (s, two, a, b) -> x.acts(s, two, a, b, 9));
        refusals(x, (s, two, a, b) -> x.heavy(s, two, a, b, 2));
        refusals(x, (s, two, a, b) -> x.laws(s, two, a, b));
        refusals(x, (s, two, a, b) -> x.whose(s, two == 1 ? 0 : two == 0 ? 3 : two, a, b));
        for (int bad : new int[] {-1, 3, 4, Integer.MAX_VALUE, Integer.MIN_VALUE}) {
            due("kinds, sort " + bad, x.kinds(0, 1, 0, 0, bad), -7);
        }
        for (int bad : new int[] {-1, 9, 10, Integer.MAX_VALUE, Integer.MIN_VALUE}) {
            due("acts, t " + bad, x.acts(0, 1, 0, 0, bad), -7);
        }
        for (int bad : new int[] {-1, 2, 9, 12, 20, 21, -10, -9, Integer.MAX_VALUE, Integer.MIN_VALUE}) {
            due("heavy, sortWhat " + bad, x.heavy(0, 1, 0, 0, bad), -7);
        }
    }

    private static void kinds() {
        RingOfStraw x = ring();
        Checks.sheet(x, 0, 5);
        due("kinds", x.kinds(0, 1, P, P, 0), 1 << 1);
        due("more", x.kinds(0, 1, P, P, 1), 0xFE);
        due("knees", x.kinds(0, 1, P, P, 2), 15);
        Checks.sheet(x, 0, 6);
        due("kinds", x.kinds(0, 1, P, P, 0), 1 << 3);
        due("more", x.kinds(0, 1, P, P, 1), 0x300);
        due("knees", x.kinds(0, 1, P, P, 2), 0);
        Checks.sheet(x, 0, 3);
        due("kinds", x.kinds(0, 1, P, P, 0), 1 + 4 + 16 + 32);
        due("more", x.kinds(0, 1, P, P, 1), 1);
        due("knees", x.kinds(0, 1, P, P, 2), 0x3E0);
        x.put(0, 2, 9);
        Checks.sheet(x, 0, 4);
        due("knees", x.kinds(0, 1, P, P, 2), 16);
        // 12 against 30: a bull starts in cell 5.
        due("kinds of another one", x.kinds(0, 12, P, P, 0), 8);
        due("told(0, 5)", x.told(0, 5), 1);
        due("told(0, 6)", x.told(0, 6), 2);
        due("told(0, 2)", x.told(0, 2), 9);
        Checks.sheet(x, 0);
        due("kinds, nothing told", x.kinds(0, 1, P, P, 0), 63);
        due("more, nothing told", x.kinds(0, 1, P, P, 1), 1023);
        due("knees, nothing told", x.kinds(0, 1, P, P, 2), 1023);
    }

    /** Of whom it is told that he stands, and from where he starts, kinds tell too. */
    private static void kindsThatStand() {
        RingOfStraw x = Checks.ringBy("force weight ; stands 0 ; ahead 1 ;");
        x.man(1, 1000);
        x.man(0, 4000);
        Checks.sheet(x, 0, 2, 1, 0);
        due("a holder", x.kinds(0, 1, P, P, 0), 1 << 2);
        Checks.sheet(x, 0, 2, 0);
        due("not a holder, a tree or a bull", x.kinds(0, 1, P, P, 0), 1 + 2 + 32);
        Checks.sheet(x, 0, 1, 1, 1, 0);
        due("a tree", x.kinds(0, 1, P, P, 0), 1 << 4);
        Checks.sheet(x, 0, 3, 1, 1);
        due("a bull stands no longer", x.kinds(0, 1, P, P, 0), 0);
        Checks.sheet(x, 0, 3, 1, 0);
        due("a bull", x.kinds(0, 1, P, P, 0), 1 << 3);
    }

    private static void acts() {
        RingOfStraw x = ring();
        Checks.sheet(x, 0, 5);
        due("second 0", x.acts(0, 1, H, P, 0), 5);
        due("second 1", x.acts(0, 1, P, P, 1), 15);
        due("second 1", x.acts(0, 1, H, P, 1), 0);
        due("second 8", x.acts(0, 1, P, P, 8), 15);
        Checks.sheet(x, 0, 5, 6, 7, 7, 8);
        due("second 4", x.acts(0, 1, P, P, 4), 5);
        due("second 5", x.acts(0, 1, P, P, 5), 15);
        Checks.sheet(x, 0, 5, 4, 5, 4, 5, 4, 5, 4, 5);
        int plan = Checks.plan("PHPHPHPHP");
        due("judge", x.judge(0, 1, plan, P), -1);
        for (int t = 0; t < 9; t++) {
            due("second " + t, x.acts(0, 1, plan, P, t), t % 2 == 0 ? 5 : 10);
        }
        Checks.sheet(x, 0, 4);
        due("none", x.acts(0, 1, P, P, 0), 0);
    }

    private static void heavy() {
        RingOfStraw x = ring();
        Checks.sheet(x, 0, 5);
        due("weights", x.heavy(0, 1, P, P, 0), 20);
        due("the least weight", x.heavy(0, 1, P, P, 1), 7);
        due("paces", x.heavy(0, 1, P, P, 10), 100);
        due("the least pace", x.heavy(0, 1, P, P, 11), 0);
        Checks.sheet(x, 0, 9);
        due("weights", x.heavy(0, 1, P, P, 0), 0);
        due("the least weight", x.heavy(0, 1, P, P, 1), -1);
        due("paces", x.heavy(0, 1, P, P, 10), 0);
        due("the least pace", x.heavy(0, 1, P, P, 11), -1);
        due("told(0, 0)", x.told(0, 0), 10);
        due("told(0, 1)", x.told(0, 1), 0);
        RingOfStraw y = Checks.ringBy("force pace ; stands 0 ; ahead 0 ;");
        y.man(0, 0);
        y.man(0, 90);
        Checks.sheet(y, 0, 5);
        due("paces", y.heavy(0, 1, P, P, 10), 9);
        due("the least pace", y.heavy(0, 1, P, P, 11), 91);
        Checks.sheet(y, 0, 3);
        due("paces", y.heavy(0, 1, P, P, 10), 20);
        due("the least pace", y.heavy(0, 1, P, P, 11), 70);
        Checks.sheet(y, 0, 2);
        due("paces", y.heavy(0, 1, P, P, 10), 70);
        due("weights", y.heavy(0, 1, P, P, 0), 100);
    }

    private static void laws() {
        RingOfStraw x = ring();
        Checks.read(x, "force 5 ; stands 0 ; ahead 0 ;");
        Checks.read(x, "force 5 ; stands 0 ; ahead weight - 11 ;");
        Checks.read(x, "force weight ; stands 0 ; ahead 0 ;");
        // 0: 16 against 12 by weight too; 1: likewise; 2: 11 against 5; 3: likewise, from cell 2 on; 4: as 1.
        Checks.sheet(x, 0, 5);
        due("laws", x.laws(0, 1, P, P), 1 + 2 + 4 + 16);
        Checks.sheet(x, 0, 3);
        due("laws", x.laws(0, 1, P, P), 8);
        Checks.sheet(x, 0, 5, 6, 7, 7);
        due("laws", x.laws(0, 1, P, P), 3);
        Checks.sheet(x, 0, 5, 6, 7, 8);
        due("laws", x.laws(0, 1, P, P), 4 + 16);
        Checks.sheet(x, 0, 0);
        due("laws", x.laws(0, 1, P, P), 0);
        due("count(3)", x.count(3), 1);
    }

    private static void whose() {
        RingOfStraw x = ring();
        x.man(0, 1600);
        x.man(22, 2400);
        Checks.sheet(x, 0, 5);
        due("whose", x.whose(0, 0, P, P), 2 + 16);
        Checks.sheet(x, 0, 3);
        due("whose", x.whose(0, 0, P, P), 4);
        Checks.sheet(x, 0, 4);
        due("whose", x.whose(0, 0, P, P), 8);
        due("whose, the one's plan", x.whose(0, 0, A, H), 0);
        Checks.sheet(x, 0);
        due("whose, nothing told", x.whose(0, 2, P, P), 1 + 2 + 8 + 16);
        due("whose, none such", x.whose(0, 5, P, P), -5);
        due("whose, none such", x.whose(0, -1, P, P), -5);
        due("told(0, 3)", x.told(0, 3), 0);
    }

    private static void film() {
        RingOfStraw x = ring();
        due("film", x.film(3, 1, P, P), 5);
        int[] cells = {5, 6, 7, 7, 8};
        Checks.sheet(x, 0, 0, 0, 0, 0, 0);
        due("copy of bytes to ints", x.copy(3, 0, 0, 0, 5), -13);
        x.sheet(0, 0, 5);
        due("copy of bytes", x.copy(3, 0, 0, 0, 5), 5);
        due("copy of one more", x.copy(3, 0, 0, 0, 6), -12);
        due("judge", x.judge(0, 1, P, P), -1);
        for (int i = 0; i < 5; i++) {
            x.cell(3, i, cells[i] + 256);
            due("judge of bytes", x.judge(3, 1, P, P), -1);
            x.cell(3, i, cells[i] + 1);
            due("judge", x.judge(3, 1, P, P), i);
            x.cell(3, i, cells[i]);
        }
        Checks.sheet(x, 1, 1, 2, 3);
        due("film over another", x.film(1, 1, L, L), 5);
        due("a place behind", x.cell(1, 5, 0), -12);
        due("judge", x.judge(1, 1, L, L), -1);
        due("judge: 3 2 1 1 0", x.judge(1, 1, P, P), 0);
        due("film of nine", x.film(1, 1, A, A), 9);
        due("told(1, 4)", x.told(1, 4), 0);
        due("told(0, 3)", x.told(0, 3), 0);
        due("film, sheet", x.film(-1, 0, -1, 0), -2);
        due("film, sheet", x.film(4, 0, -1, 0), -2);
        due("film, no two", x.film(2, 0, -1, 0), -5);
        due("film, plan", x.film(2, 1, -1, 0), -7);
        due("film, plan", x.film(2, 1, 0, 262144), -7);
        due("a film that was refused", x.judge(2, 1, P, P), -11);
    }

    public static void main(String[] args) {
        judge();
        refusals();
        kinds();
        kindsThatStand();
        acts();
        heavy();
        laws();
        whose();
        film();
        Checks.end();
    }
}
