/** Promises 30 to 34: sheets, copies, wrestlers by a sheet, what lies at a place. */
public final class HostTest {
    private static void due(String call, long got, long want) {
        Checks.due(call, got, want);
    }

    private static void sheet() {
        RingOfStraw x = new RingOfStraw();
        due("sheet(-1, ..)", x.sheet(-1, 0, -1), -2);
        due("sheet(4, ..)", x.sheet(4, 0, -1), -2);
        due("sheet, sort 3", x.sheet(0, 3, -1), -2);
        due("sheet, sort -2", x.sheet(0, -2, -1), -2);
        due("sheet, n 41", x.sheet(0, 2, 41), -2);
        due("sheet, n far out", x.sheet(0, 2, Integer.MAX_VALUE), -2);
        due("sheet, n -1", x.sheet(0, 2, -1), -14);
        due("sheet, n far below", x.sheet(0, 0, Integer.MIN_VALUE), -14);
        due("still missing", x.cell(0, 0, 0), -11);
        for (int s = 0; s < 4; s++) {
            for (int sort = 0; sort < 3; sort++) {
                due("sheet of 40", x.sheet(s, sort, 40), 1);
                due("the last place", x.cell(s, 39, 1), 1);
                due("a place behind", x.cell(s, 40, 1), -12);
                due("sheet of 0", x.sheet(s, sort, 0), 1);
                due("a place behind", x.cell(s, 0, 1), -12);
            }
        }
        due("a bad sheet changes nothing", x.sheet(1, 2, 41), -2);
        due("a bad sheet changes nothing", x.sheet(1, 2, -1), -14);
        due("a bad sheet changes nothing", x.cell(1, 0, 0), -12);
        for (int n : new int[] {0, -1, 41, Integer.MAX_VALUE, Integer.MIN_VALUE}) {
            x.sheet(1, 2, 5);
            due("missing, n " + n, x.sheet(1, -1, n), 1);
            due("missing, n " + n, x.cell(1, 0, 0), -11);
        }
        due("sheet(4, -1, ..)", x.sheet(4, -1, 0), -2);
    }

    /** A row that becomes one anew is all 0. */
    private static void anew() {
        RingOfStraw all = new RingOfStraw();
        all.sheet(3, 2, 12);
        holds(all, 3, 0, 0, 0, 0, 0, 0);
        RingOfStraw x = new RingOfStraw();
        x.man(0, 9900);
        x.man(0, 0);
        Checks.sheet(x, 0, 0, 262143);
        x.cell(0, 0, -1);
        due("run", x.run(0, 0, 0), -2);
        x.sheet(0, 2, 2);
        due("run", x.run(0, 0, 0), 0);
        x.cell(0, 0, -1);
        x.sheet(0, -1, 2);
        x.sheet(0, 1, 2);
        due("run", x.run(0, 0, 0), 0);
    }

    /** By run() it is seen whether a number is a plan, by judge() whether it is a cell. */
    private static void number(int sort, int v, int plan, int cell) {
        RingOfStraw x = Checks.ringBy("force 0 ; stands 0 ; ahead 0 ;");
        x.man(0, 0);
        x.sheet(0, sort, 1);
        due("cell " + v, x.cell(0, 0, v), 1);
        due("a plan of sort " + sort + " by " + v, x.run(0, 0, 0), plan);
        x.man(0, 0);
        due("a cell of sort " + sort + " by " + v, x.judge(0, 1, 0, 0), cell);
    }

    private static void cell() {
        number(0, 4, 0, -1);
        number(0, 260, 0, -1);
        number(0, -252, 0, -1);
        number(0, 65540, 0, -1);
        number(0, 127, 0, 0);
        number(0, 128, -2, 0);
        number(0, 255, -2, 0);
        number(0, 256, 0, 0);
        number(1, 260, 0, 0);
        number(1, 65540, 0, -1);
        number(1, 32767, 0, 0);
        number(1, 32768, -2, 0);
        number(1, -65532, 0, -1);
        number(2, 65540, 0, 0);
        number(2, 262143, 0, 0);
        number(2, 262144, -2, 0);
        number(2, 4, 0, -1);
        RingOfStraw x = new RingOfStraw();
        x.sheet(2, 2, 3);
        due("cell(-1, ..)", x.cell(-1, 9, 0), -2);
        due("cell(4, ..)", x.cell(4, 9, 0), -2);
        due("cell, missing", x.cell(0, 9, 0), -11);
        due("cell, -1", x.cell(2, -1, 0), -12);
        due("cell, 3", x.cell(2, 3, 0), -12);
        due("cell, 40", x.cell(2, 40, 0), -12);
        due("cell, far out", x.cell(2, Integer.MAX_VALUE, 0), -12);
        due("cell, far below", x.cell(2, Integer.MIN_VALUE, 0), -12);
        due("cell, 2", x.cell(2, 2, Integer.MIN_VALUE), 1);
    }

    /** What a sheet holds, two numbers told as one (10000 times the first, and the second): seen as wrestlers. */
    private static void holds(RingOfStraw x, int s, int... want) {
        for (int i = 0; i < want.length; i++) {
            x.image();
            due("menBy", x.menBy(s, 2, 2 * i, 1), 1);
            int m = x.count(0) - 1;
            due("number " + (2 * i), 10 * x.told(m, 5) + x.told(m, 6), want[i] / 10000);
            due("number " + (2 * i + 1), 100 * x.told(m, 0) + x.told(m, 1), want[i] % 10000);
            x.back();
        }
    }

    private static void copy() {
        RingOfStraw x = new RingOfStraw();
        Checks.sheet(x, 0, 1, 2, 3, 4, 5, 6);
        Checks.sheet(x, 1, 11, 12, 13, 14, 15, 16);
        due("copy", x.copy(0, 1, 1, 2, 3), 3);
        holds(x, 1, 110012, 20003, 40016);
        holds(x, 0, 10002, 30004, 50006);
        due("copy onwards in itself", x.copy(0, 0, 0, 1, 5), 5);
        holds(x, 0, 10001, 20003, 40005);
        due("copy back in itself", x.copy(0, 2, 0, 0, 4), 4);
        holds(x, 0, 20003, 40005, 40005);
        due("copy of none", x.copy(0, 6, 1, 6, 0), 0);
        due("copy of none, outside", x.copy(0, 7, 1, 0, 0), -12);
        due("copy of none, outside", x.copy(0, 0, 1, 7, 0), -12);
        due("copy of all", x.copy(0, 0, 1, 0, 6), 6);
        holds(x, 1, 20003, 40005, 40005);
    }

    private static void refusalsOfCopy() {
        RingOfStraw x = new RingOfStraw();
        Checks.sheet(x, 0, 1, 2, 3, 4, 5, 6);
        Checks.sheet(x, 1, 11, 12, 13, 14, 15, 16);
        x.sheet(2, 1, 6);
        due("copy, sheet -1", x.copy(-1, 0, 3, 0, -1), -2);
        due("copy, sheet 4", x.copy(4, 0, 3, 0, -1), -2);
        due("copy, other sheet -1", x.copy(3, 0, -1, 0, -1), -2);
        due("copy, other sheet 4", x.copy(3, 0, 4, 0, -1), -2);
        due("copy, missing", x.copy(3, 0, 0, 0, -1), -11);
        due("copy, other missing", x.copy(0, 0, 3, 0, -1), -11);
        due("copy, both missing", x.copy(3, 0, 3, 0, -1), -11);
        due("copy, unlike", x.copy(0, 0, 2, 0, -1), -13);
        due("copy, unlike", x.copy(2, -1, 0, 0, 1), -13);
        due("copy, n -1", x.copy(0, 0, 1, 0, -1), -12);
        due("copy, i -1", x.copy(0, -1, 1, 0, 1), -12);
        due("copy, j -1", x.copy(0, 0, 1, -1, 1), -12);
        due("copy, i too far", x.copy(0, 4, 1, 0, 3), -12);
        due("copy, j too far", x.copy(0, 0, 1, 4, 3), -12);
        due("copy, n far out", x.copy(0, 1, 1, 1, Integer.MAX_VALUE), -12);
        due("copy, i far out", x.copy(0, Integer.MAX_VALUE, 1, 0, Integer.MAX_VALUE), -12);
        due("copy, j far out", x.copy(0, 0, 1, Integer.MAX_VALUE, 1), -12);
        due("copy, all far below", x.copy(0, Integer.MIN_VALUE, 1, Integer.MIN_VALUE, Integer.MIN_VALUE), -12);
        holds(x, 1, 110012, 130014, 150016);
    }

    private static void menBy() {
        RingOfStraw x = new RingOfStraw();
        Checks.sheet(x, 0, 9, 31, 4015, 60, 0, 52, 9999, -1, 7, 0, 10000, 59, 0);
        due("menBy of none", x.menBy(0, 2, 1, 0), 0);
        due("menBy", x.menBy(0, 2, 1, 3), 2);
        due("count(0)", x.count(0), 2);
        due("told(0, 5)", x.told(0, 5), 3);
        due("told(0, 6)", x.told(0, 6), 1);
        due("told(0, 0)", x.told(0, 0), 40);
        due("told(0, 1)", x.told(0, 1), 15);
        due("told(1, 5)", x.told(1, 5), 5);
        due("told(1, 0)", x.told(1, 0), 99);
        due("menBy of others left out", x.menBy(0, 2, 7, 2), 0);
        due("menBy of the last", x.menBy(0, 2, 11, 1), 1);
        due("menBy, a half pair", x.menBy(0, 2, 12, 1), -12);
        due("count(0)", x.count(0), 3);
        due("menBy, behind the last", x.menBy(0, 2, 11, 2), -12);
        due("count(0)", x.count(0), 4);
        due("menBy till all are there", x.menBy(0, 2, 1, 6), 2);
        due("count(0)", x.count(0), 6);
        due("menBy, full", x.menBy(0, 2, 1, 6), 0);
        due("menBy, full and outside", x.menBy(0, 2, 3, 6), -12);
        due("count(0)", x.count(0), 6);
        due("menBy of none, outside", x.menBy(0, 2, 99, 0), 0);
    }

    private static void refusalsOfMenBy() {
        RingOfStraw x = new RingOfStraw();
        x.sheet(0, 2, 4);
        due("menBy, sheet -1", x.menBy(-1, 2, 0, 1), -2);
        due("menBy, sheet 4", x.menBy(4, 2, 0, 1), -2);
        due("menBy, sort 3", x.menBy(1, 3, 0, 1), -2);
        due("menBy, sort -1", x.menBy(1, -1, 0, 1), -2);
        due("menBy, n 7", x.menBy(1, 2, 0, 7), -2);
        due("menBy, n -1", x.menBy(1, 2, 0, -1), -2);
        due("menBy, missing", x.menBy(1, 2, -1, 1), -11);
        due("menBy, sort 0", x.menBy(0, 0, -1, 1), -13);
        due("menBy, sort 1", x.menBy(0, 1, 99, 0), -13);
        due("menBy, from -1", x.menBy(0, 2, -1, 1), -12);
        due("menBy, from 3", x.menBy(0, 2, 3, 1), -12);
        due("menBy, from 4", x.menBy(0, 2, 4, 1), -12);
        due("menBy, from far out", x.menBy(0, 2, Integer.MAX_VALUE, 6), -12);
        due("menBy, from far below", x.menBy(0, 2, Integer.MIN_VALUE, 6), -12);
        due("count(0)", x.count(0), 0);
        x.sheet(2, 0, 2);
        x.cell(2, 0, 43);
        x.cell(2, 1, 107);
        due("menBy of bytes", x.menBy(2, 0, 0, 1), 1);
        due("told(0, 0)", x.told(0, 0), 1);
        due("told(0, 1)", x.told(0, 1), 7);
        x.sheet(3, 1, 2);
        x.cell(3, 1, 9998);
        due("menBy of shorts", x.menBy(3, 1, 0, 1), 1);
        due("told(1, 1)", x.told(1, 1), 98);
        x.cell(2, 1, 130);
        due("menBy of bytes above 127", x.menBy(2, 0, 0, 1), 0);
    }

    private static void taken() {
        RingOfStraw x = new RingOfStraw();
        for (int kind = 0; kind < 6; kind++) {
            x.man(10 * kind + 3, 100 * kind);
        }
        x.fight(3, 0, 0, 0);
        x.fight(3, 1, 0, 0);
        // Of each kind, as which kinds it can be taken.
        int[] as = {1, 1 + 2, 1 + 4, 1 + 2 + 8, 1 + 4 + 16, 1 + 32};
        for (int m = 0; m < 6; m++) {
            for (int kind = 0; kind < 6; kind++) {
                due("taken(" + m + ", " + kind + ")", x.taken(m, kind), (as[m] >> kind & 1) == 1 ? m : -13);
                due("taken(" + (m + 6) + ", " + kind + ")", x.taken(m + 6, kind), -13);
            }
            due("taken(" + m + ", 6)", x.taken(m, 6), -13);
            due("taken(" + (m + 6) + ", 6)", x.taken(m + 6, 6), x.told(m, 3));
            due("told(" + m + ", 5)", x.told(m, 5), m);
        }
        due("wins", x.taken(9, 6), 2);
        for (int kind : new int[] {-1, 7, Integer.MAX_VALUE, Integer.MIN_VALUE}) {
            due("taken, kind " + kind, x.taken(12, kind), -2);
        }
        for (int i : new int[] {-1, 12, -6, Integer.MAX_VALUE, Integer.MIN_VALUE}) {
            due("taken, i " + i, x.taken(i, 0), -12);
        }
        RingOfStraw y = new RingOfStraw();
        y.man(0, 0);
        due("taken, none such", y.taken(1, 6), -11);
        due("taken, none such", y.taken(7, 0), -11);
        due("taken, none such", y.taken(11, 6), -11);
        due("taken, of none outside", y.taken(12, 6), -12);
    }

    public static void main(String[] args) {
        sheet();
        anew();
        cell();
        copy();
        refusalsOfCopy();
        menBy();
        refusalsOfMenBy();
        taken();
        Checks.end();
    }
}
