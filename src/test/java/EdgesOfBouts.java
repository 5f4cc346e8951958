import java.util.List;

/** The second of the terms: bouts, pairs, short plans, lots, images, sheets, refusals. */
final class EdgesOfBouts {
    private EdgesOfBouts() {
    }

    private static void of(String... words) {
        Edge.of(Edge.TERMS, words);
    }

    private static void due(String call, long got, long want) {
        Edge.due(call, got, want);
    }

    static void all() {
        cells();
        starts();
        secondBySecond();
        strength();
        moreOrLess();
        strawOfTheEast();
        strawOfTheWest();
        end();
        seconds();
        twoMen();
        shortPlans();
        lots();
        image();
        sheets();
        refusals();
        theHosts();
        refusedCallsChangeNothing();
        askedCallsChangeNothing();
    }

    // ---- bouts

    private static void cells() {
        of("A BOUT of two, the one of the west, the other one of the east, by a PLAN each, in CELLS 0 .. 8: ");
        RingOfStraw x = Rings.by("weight", 30, 0);
        x.man(30, 3000);
        Rings.cells(x, 1, "P", "P", 4, 6, 8);
        Rings.cells(x, 10, "P", "P", 4, 2, 0);
        // From 7 on 2 further, from 1 on 2 less: no cell 9, none below 0.
        Rings.cells(x, 21, "P", "P", 5, 7, 8);
        Rings.cells(x, 12, "P", "P", 3, 1, 0);
        RingOfStraw y = Rings.by("act", 0, 0);
        Rings.cells(y, 1, "H", "P", 4, 5, 6, 7, 8);
        Rings.cells(y, 1, "P", "H", 4, 3, 2, 1, 0);
        Rings.cells(y, 10, "H", "P", 4, 5, 6, 7, 8);
    }

    private static void starts() {
        of("they are in CELL 4 and what the one STARTS ahead less what the other one does (1 .. 7, else the bound). ");
        RingOfStraw x = Checks.ringBy("force 0 ; stands 0 ; ahead pace - 2 ;");
        for (int pace = 0; pace < 5; pace++) {
            x.man(0, pace);
        }
        x.man(30, 4);
        int[] ahead = {-2, -1, 0, 1, 2, 3};
        for (int a = 0; a < 6; a++) {
            for (int b = 0; b < 6; b++) {
                if (a != b) {
                    int due = Math.max(1, Math.min(7, 4 + ahead[a] - ahead[b]));
                    due("the start of " + a + " and " + b, x.bout(10 * a + b, 0, 0, 10), due);
                    due("the end of " + a + " and " + b, x.bout(10 * a + b, 0, 0, 19), due);
                }
            }
        }
    }

    private static void secondBySecond() {
        of("Second by second (0 .. 8): ");
        RingOfStraw x = Rings.by("act", 0, 0);
        Rings.cells(x, 1, "HPPPPPPPP", "PPPPPPPPP", 4, 5, 5, 5, 5, 5, 5, 5, 5, 5);
        Rings.cells(x, 1, "PPPPPPPPH", "PPPPPPPPP", 4, 4, 4, 4, 4, 4, 4, 4, 4, 5);
        Rings.cells(x, 1, "HHPPPLLPP", "PPHHHPPHH", 4, 5, 6, 5, 4, 3, 4, 5, 4, 3);
    }

    private static void strength() {
        of("STRENGTH of each is what one FORCES (force told by both ACTS; ");
        RingOfStraw acts = Rings.by("act * 3 + his", 0, 0);
        Rings.cells(acts, 1, "H", "L", 4, 3, 2, 1, 0);
        Rings.cells(acts, 1, "L", "H", 4, 5, 6, 7, 8);
        Rings.cells(acts, 1, "L", "L", 4, 4, 4, 4, 4, 4, 4, 4, 4, 4);
        of("cell: the CELL for the one, 8 less it for the other one) ");
        RingOfStraw cell = Rings.of("force cell * 5 ; stands 0 ; ahead weight ;", 1, 0);
        Rings.cells(cell, 1, "P", "P", 5, 6, 7, 8);
        Rings.cells(cell, 10, "P", "P", 3, 2, 1, 0);
        cell.put(0, 0, 0);
        Rings.cells(cell, 1, "P", "P", 4, 4, 4, 4, 4, 4, 4, 4, 4, 4);
        // Of cell 5 the one says 5, the other one 3.
        RingOfStraw five = Rings.of("force (cell = 5) * 9 + (cell = 3) * 7 ; stands 0 ; ahead weight ;", 1, 0);
        due("behind one second", five.bout(1, 0, 0, 11), 6);
        due("behind one second", five.bout(10, 0, 0, 11), 2);
        of("less KNEE, 0 at least. ");
        RingOfStraw x = Rings.by("weight", 5, 0);
        int[] behind = {5, 5, 5, 5, 5, 4, 4, 4, 4, 4};
        for (int knee = 0; knee < 10; knee++) {
            x.put(0, 2, knee);
            due("5 less " + knee, x.bout(1, 0, 0, 11), behind[knee]);
            due("the other one's 5 less " + knee, x.bout(10, 0, 0, 11), 8 - behind[knee]);
        }
        RingOfStraw weak = Rings.by("weight", 0, 20);
        weak.put(0, 2, 9);
        due("0 less 9 against 20", weak.bout(1, 0, 0, 11), 3);
        due("20 against 0 less 9", weak.bout(10, 0, 0, 11), 5);
        weak.put(1, 0, 3);
        weak.put(1, 2, 8);
        due("0 less 9 against 3 less 8", weak.bout(1, 0, 0, 11), 4);
    }

    private static void moreOrLess() {
        of("If the one's is more than the other one's, the CELL is 1 further, by more than 20 2 further; ");
        moreOrLess(1, 1);
        of("if it is less, 1 less, by more than 20 2 less. ");
        moreOrLess(10, -1);
    }

    /** Of 0 and 1 wrestler 0 is as much stronger as is told, or not. */
    private static void moreOrLess(int twoMen, int sign) {
        RingOfStraw x = Rings.by("weight", 0, 0);
        int[][] further = {{0, 0}, {1, 1}, {2, 1}, {19, 1}, {20, 1}, {21, 2}, {22, 2}, {41, 2}, {99, 2}};
        for (int[] by : further) {
            for (int weight : new int[] {0, 1, 99 - by[0]}) {
                int heavier = Math.min(99, weight + by[0]);
                x.put(1, 0, heavier - by[0]);
                x.put(0, 0, heavier);
                due("by " + by[0], x.bout(twoMen, 0, 0, 11), 4 + sign * by[1]);
            }
        }
    }

    private static void strawOfTheEast() {
        of("If the CELL is 8 or more then: if the other one has STOOD at the straw in fewer seconds than that one STANDS ");
        int[][] bySteps = {{4, 5, 6, 7, 8}, {4, 5, 6, 7, 7, 8}, {4, 5, 6, 7, 7, 7, 8}};
        int[][] byTwo = {{4, 6, 8}, {4, 6, 7, 8}, {4, 6, 7, 7, 8}};
        for (int stands = 0; stands < 3; stands++) {
            RingOfStraw x = Rings.of("force weight ; stands " + stands + " ; ahead 0 ;", 10, 0);
            Rings.cells(x, 1, "P", "P", bySteps[stands]);
            x.put(0, 0, 30);
            Rings.cells(x, 1, "P", "P", byTwo[stands]);
            Rings.winner(x, 1, "P", "P", 0);
        }
        of("(0 .. 9, else the bound; told ahead of the BOUT), that one does once more, and they are in CELL 7; ");
        RingOfStraw most = Rings.of("force weight ; stands 5 ; ahead 0 ;", 30, 0);
        Rings.cells(most, 1, "P", "P", 4, 6, 7, 7, 7, 7, 7, 8);
        // A tree stands 5 and 1 and 9, else the bound: all nine seconds.
        RingOfStraw tree = Rings.of("force weight ; stands 5 ; ahead weight - 1 ;", 30);
        tree.man(49, 0);
        Rings.cells(tree, 1, "P", "P", 7, 7, 7, 7, 7, 7, 7, 7, 7, 7);
        Rings.winner(tree, 1, "P", "P", 0);
        of("else they are in CELL 8, the one WINS, it is over. ");
        RingOfStraw none = Rings.by("weight", 30, 0);
        Rings.cells(none, 1, "PPAAAAAAA", "P", 4, 6, 8);
        Rings.winner(none, 1, "PPAAAAAAA", "P", 0);
        // One who comes back to the straw has stood there before.
        RingOfStraw again = Rings.of("force act * 10 ; stands 1 ; ahead 0 ;", 0, 0);
        Rings.cells(again, 1, "LLPLLLLLL", "PPLPPPPPP", 4, 6, 7, 5, 7, 8);
        Rings.winner(again, 1, "LLPLLLLLL", "PPLPPPPPP", 0);
    }

    private static void strawOfTheWest() {
        of("If it is 0 or less, likewise: CELL 1, or CELL 0, the other one WINS. ");
        int[][] bySteps = {{4, 3, 2, 1, 0}, {4, 3, 2, 1, 1, 0}, {4, 3, 2, 1, 1, 1, 0}};
        int[][] byTwo = {{4, 2, 0}, {4, 2, 1, 0}, {4, 2, 1, 1, 0}};
        for (int stands = 0; stands < 3; stands++) {
            RingOfStraw x = Rings.of("force weight ; stands " + stands + " ; ahead 0 ;", 0, 10);
            Rings.cells(x, 1, "P", "P", bySteps[stands]);
            x.put(1, 0, 30);
            Rings.cells(x, 1, "P", "P", byTwo[stands]);
            Rings.winner(x, 1, "P", "P", 1);
        }
        // Each stands for himself.
        RingOfStraw both = Rings.of("force act * 10 ; stands 1 ; ahead 0 ;", 0, 0);
        Rings.cells(both, 1, "LLPPPPLLL", "PPLLLLPPP", 4, 6, 7, 5, 3, 1, 1, 3, 5, 7);
        Rings.cells(both, 1, "LLPPPPPPP", "PPLLLLLLL", 4, 6, 7, 5, 3, 1, 1, 0);
        RingOfStraw unlike = Rings.of("force act * 10 ; stands weight ; ahead 0 ;", 0, 3);
        Rings.cells(unlike, 1, "L", "P", 4, 6, 7, 7, 7, 8);
        Rings.cells(unlike, 1, "P", "L", 4, 2, 0);
    }

    private static void end() {
        of("Behind second 8 it is over: the one WINS, if the CELL is above 4, the other one, if it is below; nobody in CELL 4. ");
        RingOfStraw x = Rings.by("act", 0, 0);
        Rings.winner(x, 1, "PPPPPPPPH", "P", 0);
        Rings.winner(x, 1, "P", "PPPPPPPPH", 1);
        Rings.winner(x, 10, "PPPPPPPPH", "P", 1);
        Rings.winner(x, 1, "P", "P", -1);
        Rings.winner(x, 1, "HPPPPPPPP", "PPPPPPPPH", -1);
        Rings.cells(x, 1, "HPPPPPPPP", "PPPPPPPPH", 4, 5, 5, 5, 5, 5, 5, 5, 5, 4);
        Rings.winner(x, 1, "HHHPPPPPP", "P", 0);
        Rings.cells(x, 1, "HHHPPPPPP", "P", 4, 5, 6, 7, 7, 7, 7, 7, 7, 7);
    }

    private static void seconds() {
        of("SECONDS: how many there were. ");
        RingOfStraw x = Rings.of("force weight ; stands 0 ; ahead weight ;", 30, 0);
        Rings.cells(x, 1, "P", "P", 6, 8);
        RingOfStraw y = Rings.by("act", 0, 0);
        Rings.cells(y, 1, "PPPPHHHHH", "P", 4, 4, 4, 4, 4, 5, 6, 7, 8);
        Rings.cells(y, 1, "PPPPPHHHH", "P", 4, 4, 4, 4, 4, 4, 5, 6, 7, 8);
        Rings.winner(y, 1, "PPPPPHHHH", "P", 0);
        Rings.cells(y, 1, "PPPPPPHHH", "P", 4, 4, 4, 4, 4, 4, 4, 5, 6, 7);
    }

    // ---- pairs, plans, lots

    private static void twoMen() {
        of("twoMen: 10 times the one, and the other (0 .. 55, else there are no such two); one and the same are none such. ");
        RingOfStraw x = Rings.by("weight", 0, 1, 2, 3, 4, 5);
        for (int two = -12; two < 130; two++) {
            boolean isNone = two < 0 || two > 55 || two % 10 > 5 || two / 10 == two % 10;
            due("bout(" + two + ", ..)", x.bout(two, 0, 0, 0), isNone ? -5 : Math.max(two / 10, two % 10));
        }
        for (int two : Rings.FAR) {
            due("bout(" + two + ", ..)", x.bout(two, 0, 0, 0), -5);
        }
        RingOfStraw y = Rings.by("weight", 0, 1, 2);
        due("bout(21, ..)", y.bout(21, 0, 0, 0), 2);
        due("bout(3, ..)", y.bout(3, 0, 0, 0), -5);
        due("bout(30, ..)", y.bout(30, 0, 0, 0), -5);
        due("bout(34, ..)", y.bout(34, 0, 0, 0), -5);
    }

    private static void shortPlans() {
        of("A SHORT PLAN of n seconds (bits 2 t and 2 t + 1: second t below n): its last ACT goes on to the end. ");
        RingOfStraw x = Rings.by("act", 0, 0);
        due("pull goes on", x.best(1, Checks.plan("LLLLPPPPP"), 1, 0), 3);
        due("pull goes on", x.best(1, Checks.plan("LLLLPPPPP"), 1, 1), 8);
        due("hold, hold, pull goes on", x.best(1, Checks.plan("PPPHHHHHH"), 3, 0), 1 + 4 + 48);
        due("hold, hold, pull goes on", x.best(1, Checks.plan("PPPHHHHHH"), 3, 1), 4);
        due("push, pull goes on", x.best(1, Checks.plan("PPLLLLLLL"), 2, 0), 12);
        due("push, pull goes on", x.best(1, Checks.plan("PPLLLLLLL"), 2, 1), 9);
    }

    private static void lots() {
        of("PLANS by a SEED (0 .. 99999): ");
        RingOfStraw x = Rings.of("force act ; stands 1 ; ahead 0 ;", 0, 0);
        due("SEED -1", x.drawn(-1, 0, 1, 0), -7);
        byLots(x, 0, 48271, 153570);
        byLots(x, 99999, 242530, 88695);
        due("SEED 100000", x.drawn(100000, 0, 1, 0), -7);
        of("LOT modulo 262144 is the one's PLAN, the next LOT's the other one's. ");
        // The first lots: 96542, 289626.
        byLots(x, 1, 96542, 44996);
        byLots(x, 5, 27482, 134988);
        of("LOTS: the first is (SEED and 1) times 48271 modulo 2147483647, ");
        // Behind 44487 the product is above 2147483647 for the first time.
        byLots(x, 44487, 258744, 29014);
        byLots(x, 44488, 44872, 182585);
        byLots(x, 44489, 93143, 74011);
        of("each further one the last times 48271 modulo 2147483647. ");
        byLots(x, 7, 124024, 179984);
    }

    private static void byLots(RingOfStraw x, int seed, int planA, int planB) {
        for (int what = 0; what < 2; what++) {
            due("drawn " + seed, x.drawn(seed, 0, 1, what), x.bout(1, planA, planB, what));
            due("drawn " + seed, x.drawn(seed, 1, 0, what), x.bout(10, planA, planB, what));
        }
    }

    private static void image() {
        of("AN IMAGE keeps WEIGHT, PACE, KNEE, WINS, LOSSES of all, how many WRESTLERS there are, DAYS, THE LAW. ");
        RingOfStraw x = Rings.by("weight", 30, 0);
        x.man(47, 5);
        Checks.sheet(x, 0, 0, 0, 0);
        x.meet(0, 2);
        x.put(2, 1, 6);
        x.image();
        for (int m = 0; m < 3; m++) {
            x.put(m, 0, 50 + m);
            x.put(m, 1, 60 + m);
        }
        x.meet(0, 3);
        for (int m = 0; m < 3; m++) {
            x.put(m, 2, 9);
        }
        x.man(0, 0);
        x.force(0);
        due("back()", x.back(), 3);
        Rings.man(x, 0, 30, 0, 0, 4, 0, 0, 0);
        Rings.man(x, 1, 0, 0, 2, 0, 2, 0, 0);
        // The tree stood too long to hurt a knee.
        Rings.man(x, 2, 0, 6, 0, 0, 2, 4, 7);
        due("wrestlers", x.count(0), 3);
        due("days", x.count(1), 2);
        due("the law", x.count(3), 1);
        RingOfStraw nobody = new RingOfStraw();
        due("an image of nobody", nobody.image(), 0);
        nobody.man(0, 0);
        due("back to nobody", nobody.back(), 0);
        due("wrestlers", nobody.count(0), 0);
    }

    private static void sheets() {
        of("SHEETS 0 .. 3 are rows of numbers, or missing (as all are at first): of sort 0 bytes, 1 shorts, 2 ints, 40 at most. ");
        RingOfStraw x = new RingOfStraw();
        due("sheet -1", x.cell(-1, 0, 0), -2);
        due("sheet 4", x.cell(4, 0, 0), -2);
        for (int s = 0; s < 4; s++) {
            due("missing at first", x.cell(s, 0, 0), -11);
            for (int sort = 0; sort < 3; sort++) {
                due("40 at most", x.sheet(s, sort, 41), -2);
                due("40", x.sheet(s, sort, 40), 1);
                due("of that sort", x.menBy(s, sort, 0, 0), 0);
                due("of no other sort", x.menBy(s, (sort + 1) % 3, 0, 0), -13);
                due("the last place", x.cell(s, 39, 1), 1);
                due("a place behind the last", x.cell(s, 40, 1), -12);
            }
            due("sort 3", x.sheet(s, 3, 1), -2);
        }
        due("missing once more", x.sheet(2, -1, 0), 1);
        due("missing once more", x.cell(2, 0, 0), -11);
        due("the others aren't", x.cell(3, 0, 0) + x.cell(1, 0, 0) + x.cell(0, 0, 0), 3);
    }

    // ---- refusals

    private static void refusals() {
        of("REFUSALS, of several the first one told: ");
        RingOfStraw x = Rings.by("1", 0, 0);
        due("-5 ahead of -7", x.bout(0, -1, -1, -1), -5);
        due("BAD ahead of -11 ahead of -5 ahead of -7", x.judge(9, 0, -1, -1), -2);
        due("-11 ahead of -5 ahead of -7", x.judge(0, 0, -1, -1), -11);
        due("-12 ahead of -11 ahead of -13", x.taken(-1, 6), -12);
        due("-11 ahead of -13", x.taken(5, 6), -11);
        of("NONE there is no such thing; BAD a number is not as told; STATE as told; FULL. ");
        due("NONE", RingOfStraw.NONE, -1);
        due("BAD", RingOfStraw.BAD, -2);
        due("STATE", RingOfStraw.STATE, -3);
        due("FULL", RingOfStraw.FULL, -4);
        due("NO", RingOfStraw.NO, -4611686018427387904L);
        due("nobody wins", x.bout(1, 0, 0, 0), RingOfStraw.NONE);
        due("a number that isn't as told", x.count(5), RingOfStraw.BAD);
        due("no image", x.back(), RingOfStraw.STATE);
        for (int m = 2; m < 6; m++) {
            x.man(0, 0);
        }
        due("a seventh", x.man(0, 0), RingOfStraw.FULL);
        due("no chance", x.chance(0, 1, 0), RingOfStraw.NO);
    }

    private static void theHosts() {
        of("The host's: -11 nothing there, -12 a place outside, -13 of another sort or KIND, -14 a size below 0. ");
        RingOfStraw x = Rings.by("1", 0, 0);
        due("nothing there", x.cell(0, 0, 0), -11);
        due("nobody there", x.taken(2, 0), -11);
        x.sheet(0, 2, 1);
        x.sheet(1, 1, 1);
        due("a place outside", x.cell(0, 1, 0), -12);
        due("a place outside", x.taken(12, 0), -12);
        due("of another sort", x.copy(0, 0, 1, 0, 1), -13);
        due("of another KIND", x.taken(0, 5), -13);
        due("a size below 0", x.sheet(0, 2, -1), -14);
    }

    /** An object in which there is something of all that can be kept. */
    private static RingOfStraw full() {
        RingOfStraw x = Rings.of("force weight + pace * act ; stands 1 ; ahead 0 ;", 40, 30);
        Checks.read(x, "force cell + knee * 3 ; stands 0 ; ahead 1 ;");
        x.man(34, 2510);
        x.man(57, 3830);
        x.man(49, 1005);
        Checks.sheet(x, 2, 10, 20, 30, 40, 50);
        x.meet(2, 2);
        x.image();
        x.put(0, 0, 41);
        x.put(3, 2, 5);
        x.fight(3, 2, Rings.P, Rings.L);
        x.force(2);
        x.sheet(0, 0, 4);
        x.sheet(1, 1, 3);
        for (int i = 0; i < 3; i++) {
            x.cell(0, i, 12 + i);
            x.cell(1, i, 32 + i);
        }
        Checks.feed(x, "force 1 +");
        return x;
    }

    private static void isKept(RingOfStraw x) {
        List<Integer> kept = Rings.kept(x);
        List<Integer> twins = Rings.kept(full());
        due("how much is kept", kept.size(), twins.size());
        for (int i = 0; i < Math.min(kept.size(), twins.size()); i++) {
            due("number " + i + " of what is kept", kept.get(i), twins.get(i));
        }
    }

    private static void refused(RingOfStraw x, String calls, long... answers) {
        for (int i = 0; i < answers.length; i++) {
            due(calls + " " + i + " is refused", answers[i] < 0 ? 1 : 0, 1);
        }
    }

    private static void refusedCallsChangeNothing() {
        of("They change nothing, but where it is told. ");
        RingOfStraw x = full();
        refused(x, "count", x.count(-1), x.count(5));
        refused(x, "feed", x.feed(0, 1, 1, 1, 1, 1), x.feed(6, 1, 1, 1, 1, 1), x.feed(5, 65, 65, 65, 65, 256), x.feed(1, 65, 0, 0, 0, -1));
        refused(x, "force", x.force(-1), x.force(3));
        refused(x, "asks", x.asks(3, 0, 0, 0), x.asks(0, 5, 0, 0), x.asks(0, 0, 4, 0), x.asks(0, 0, 0, 9));
        refused(x, "man", x.man(60, 0), x.man(-1, 0), x.man(0, 10000), x.man(0, -1));
        refused(x, "put", x.put(5, 0, 1), x.put(0, 0, 100), x.put(0, 1, -1), x.put(0, 2, 10), x.put(0, 3, 1), x.put(0, -1, 1));
        refused(x, "told", x.told(5, 0), x.told(0, 7));
        refused(x, "bout", x.bout(5, 0, 0, 0), x.bout(1, -1, 0, 0), x.bout(1, 0, 0, 2));
        refused(x, "fight", x.fight(0, 5, 0, 0), x.fight(0, 0, 0, 0), x.fight(0, 1, 262144, 0), x.fight(0, 1, 0, -1));
        refused(x, "best", x.best(0, 0, 1, 0), x.best(1, 0, 4, 0), x.sure(0, 1, 0), x.sure(1, 3, 0), x.chance(1, 3, 0));
        refused(x, "knees", x.knees(0, 0, 0), x.knees(1, -1, 0), x.beats(5, 0, 0), x.beats(0, 0, -1));
        refused(x, "meet", x.meet(4, 1), x.meet(3, 1), x.meet(0, 1), x.meet(2, 0), x.meet(2, 10));
        refused(x, "run", x.run(4, 1, 0), x.run(3, 1, 0), x.run(0, 1, 0), x.run(2, -1, 0), x.run(2, 1, 15));
        refused(x, "judge", x.judge(3, 1, 0, 0), x.kinds(0, 1, 0, 0, 3), x.acts(0, 1, 0, 0, 9), x.heavy(0, 1, 0, 0, 2));
        refused(x, "laws", x.laws(0, 0, 0, 0), x.whose(0, 5, 0, 0));
        refused(x, "film", x.film(4, 1, 0, 0), x.film(0, 0, 0, 0), x.film(0, 1, -1, 0), x.film(1, 1, 0, 262144));
        refused(x, "drawn", x.drawn(-1, 0, 1, 0), x.drawn(0, 0, 0, 0), x.odds(0, 41, 0, 1, 0));
        refused(x, "sheet", x.sheet(4, 0, 1), x.sheet(0, 3, 1), x.sheet(0, 0, 41), x.sheet(0, 0, -1));
        refused(x, "cell", x.cell(4, 0, 1), x.cell(3, 0, 1), x.cell(0, 4, 1), x.cell(0, -1, 1));
        refused(x, "copy", x.copy(0, 0, 3, 0, 1), x.copy(0, 0, 1, 0, 1), x.copy(0, 0, 0, 2, 3), x.copy(0, 0, 0, 1, -1));
        refused(x, "menBy", x.menBy(0, 0, 4, 1), x.menBy(0, 1, 0, 1), x.menBy(3, 0, 0, 1), x.menBy(0, 0, 0, 7));
        refused(x, "taken", x.taken(0, 7), x.taken(12, 0), x.taken(5, 0), x.taken(0, 1));
        isKept(x);
    }

    private static void askedCallsChangeNothing() {
        of("What is asked changes nothing, but where it is told.");
        RingOfStraw x = full();
        for (int n = 0; n < 7; n++) {
            x.count(n);
            x.told(2, n);
            x.asks(n % 3, n % 5, 21, n);
        }
        for (int two : new int[] {1, 10, 23, 32, 40, 4}) {
            x.bout(two, Rings.P, Rings.A, 0);
            x.bout(two, Rings.L, 12345, 1);
            x.bout(two, 54321, Rings.H, 19);
            x.best(two, Rings.P, 3, 0);
            x.sure(two, 2, 1);
            x.chance(two, 2, 0);
            x.knees(two, Rings.L, Rings.P);
            x.judge(0, two, Rings.P, Rings.P);
            x.kinds(0, two, Rings.P, Rings.P, 0);
            x.kinds(1, two, Rings.P, Rings.P, 1);
            x.kinds(1, two, Rings.P, Rings.P, 2);
            x.acts(0, two, Rings.P, Rings.P, 3);
            x.heavy(0, two, Rings.P, Rings.P, 0);
            x.heavy(0, two, Rings.P, Rings.P, 11);
            x.laws(0, two, Rings.P, Rings.P);
            x.drawn(77, two / 10, two % 10, 0);
            x.odds(77, 40, two / 10, two % 10, 0);
        }
        for (int m = 0; m < 5; m++) {
            x.beats(m, Rings.P, Rings.H);
            x.whose(0, m, Rings.P, Rings.H);
            x.run(2, 9, 10 + m);
            x.taken(m, 0);
            x.taken(6 + m, 6);
        }
        x.run(2, 9, 0);
        isKept(x);
    }
}
