/** Promises 26 to 29: plans by lots, odds, images. */
public final class LotsTest {
    private static void due(String call, long got, long want) {
        Checks.due(call, got, want);
    }

    private static RingOfStraw ring() {
        RingOfStraw x = new RingOfStraw();
        x.man(34, 4010);
        x.man(57, 3830);
        x.man(4, 4512);
        return x;
    }

    /** Seeds, and the two plans that their lots are. */
    private static final int[][] LOTS = {
        {0, 48271, 153570}, {7, 124024, 179984}, {99999, 242530, 88695}
    };

    private static void drawn() {
        RingOfStraw x = ring();
        for (int[] lots : LOTS) {
            for (int a = 0; a < 3; a++) {
                for (int b = 0; b < 3; b++) {
                    if (a != b) {
                        due("drawn", x.drawn(lots[0], a, b, 0), x.bout(10 * a + b, lots[1], lots[2], 0));
                        due("drawn", x.drawn(lots[0], a, b, 1), x.bout(10 * a + b, lots[1], lots[2], 1));
                    }
                }
            }
        }
        due("drawn stays thought", x.told(0, 3) + x.told(1, 3) + x.told(2, 3), 0);
    }

    /** By acts alone, so that each second of both plans counts. */
    private static void drawnByActs() {
        RingOfStraw x = Checks.ringBy("force act ; stands 5 ; ahead 0 ;");
        x.man(0, 0);
        x.man(0, 0);
        int wins = 0;
        for (int seed = 99960; seed <= 99999; seed++) {
            long first = (seed + 1) * 48271L % 2147483647L;
            long next = first * 48271L % 2147483647L;
            int who = x.bout(1, (int) (first % 262144), (int) (next % 262144), 0);
            due("drawn " + seed, x.drawn(seed, 0, 1, 0), who);
            wins += who == 0 ? 1 : 0;
        }
        long above = x.odds(99960, 40, 0, 1, 0);
        long below = x.odds(99960, 40, 0, 1, 1);
        due("odds", above * 40, wins * below);
        due("some are won, some aren't", wins > 0 && wins < 40 ? 1 : 0, 1);
        due("odds past 99999", x.odds(99999, 2, 0, 1, 1) <= 2 ? 1 : 0, 1);
        int both = (x.drawn(99999, 0, 1, 0) == 0 ? 1 : 0) + (x.bout(1, 28657, 242265, 0) == 0 ? 1 : 0);
        due("odds past 99999", x.odds(99999, 2, 0, 1, 0) * 2, both * x.odds(99999, 2, 0, 1, 1));
    }

    private static void odds() {
        RingOfStraw x = Checks.ringBy("force weight + 1 ; stands 0 ; ahead 0 ;");
        x.man(50, 9000);
        x.man(0, 0);
        int wins = 0;
        for (int seed = 5; seed < 17; seed++) {
            wins += x.drawn(seed, 0, 1, 0) == 0 ? 1 : 0;
        }
        long above = x.odds(5, 12, 0, 1, 0);
        long below = x.odds(5, 12, 0, 1, 1);
        due("odds", above * 12, wins * below);
        for (long common = 2; common <= 12; common++) {
            due("lowest terms", above % common == 0 && below % common == 0 ? 1 : 0, 0);
        }
        int one = x.drawn(3, 0, 1, 0) == 0 ? 1 : 0;
        due("odds of one", x.odds(3, 1, 0, 1, 0), one);
        due("odds of one", x.odds(3, 1, 0, 1, 1), 1);
        RingOfStraw bull = Checks.ringBy("force 0 ; stands 0 ; ahead 0 ;");
        bull.man(30, 0);
        bull.man(0, 0);
        due("odds, all won", bull.odds(0, 40, 0, 1, 0), 1);
        due("odds, all won", bull.odds(0, 40, 0, 1, 1), 1);
        due("odds, none won", bull.odds(0, 40, 1, 0, 0), 0);
        due("odds, none won", bull.odds(0, 40, 1, 0, 1), 1);
    }

    private static void refusals() {
        RingOfStraw x = ring();
        due("drawn, the same", x.drawn(-1, 0, 0, 9), -5);
        due("drawn, none such", x.drawn(0, 0, 3, 0), -5);
        due("drawn, none such", x.drawn(0, 3, 0, 0), -5);
        due("drawn, none such", x.drawn(0, -1, 0, 0), -5);
        due("drawn, seed -1", x.drawn(-1, 0, 1, 0), -7);
        due("drawn, seed 100000", x.drawn(100000, 0, 1, 0), -7);
        due("drawn, what 2", x.drawn(0, 0, 1, 2), -7);
        due("drawn, what -1", x.drawn(0, 0, 1, -1), -7);
        due("odds, seed -1", x.odds(-1, 1, 0, 1, 0), RingOfStraw.NO);
        due("odds, seed 100000", x.odds(100000, 1, 0, 1, 0), RingOfStraw.NO);
        due("odds, seeds 0", x.odds(0, 0, 0, 1, 0), RingOfStraw.NO);
        due("odds, seeds 41", x.odds(0, 41, 0, 1, 0), RingOfStraw.NO);
        due("odds, the same", x.odds(0, 1, 1, 1, 0), RingOfStraw.NO);
        due("odds, none such", x.odds(0, 1, 0, 3, 0), RingOfStraw.NO);
        due("odds, none such", x.odds(0, 1, -1, 0, 0), RingOfStraw.NO);
        due("odds, part 2", x.odds(0, 1, 0, 1, 2), RingOfStraw.NO);
        due("odds, part -1", x.odds(0, 1, 0, 1, -1), RingOfStraw.NO);
    }

    private static void images() {
        RingOfStraw x = new RingOfStraw();
        due("back(), no image", x.back(), -3);
        x.man(0, 2000);
        x.man(0, 1500);
        Checks.read(x, "force weight ; stands 0 ; ahead 0 ;");
        x.force(1);
        Checks.sheet(x, 0, 0, 0);
        x.meet(0, 2);
        x.put(0, 1, 7);
        due("image()", x.image(), 2);
        x.put(0, 0, 1);
        x.put(0, 1, 2);
        x.put(0, 2, 3);
        x.fight(1, 0, 0, 0);
        x.man(55, 5555);
        x.force(0);
        Checks.read(x, "force 9 ; stands 0 ; ahead 0 ;");
        x.feed(2, 65, 65, 65, 65, 65);
        Checks.sheet(x, 0, 0, 0, 0);
        x.meet(0, 3);
        due("back()", x.back(), 2);
        int[] first = {20, 7, 0, 2, 0, 0, 0};
        int[] second = {15, 0, 2, 0, 2, 0, 0};
        for (int what = 0; what < 7; what++) {
            due("told(0, " + what + ")", x.told(0, what), first[what]);
            due("told(1, " + what + ")", x.told(1, what), second[what]);
        }
        due("told(2, 0)", x.told(2, 0), -5);
        due("wrestlers", x.count(0), 2);
        due("days", x.count(1), 2);
        due("texts stay", x.count(2), 3);
        due("the law", x.count(3), 1);
        due("the tape stays", x.count(4), 2);
        due("sheets stay", x.cell(0, 2, 0), 1);
        x.put(0, 0, 99);
        due("back() once more", x.back(), 2);
        due("told(0, 0)", x.told(0, 0), 20);
        due("man", x.man(33, 3333), 2);
        due("image() anew", x.image(), 3);
        x.put(2, 0, 1);
        due("back()", x.back(), 3);
        due("told(2, 0)", x.told(2, 0), 33);
        due("told(2, 5)", x.told(2, 5), 3);
    }

    /** What is asked in thought leaves the image as it is. */
    private static void imagesAndThought() {
        RingOfStraw x = new RingOfStraw();
        x.man(0, 2000);
        x.man(0, 1500);
        x.image();
        Checks.sheet(x, 0, 0, 0);
        x.meet(0, 1);
        x.run(0, 9, 0);
        x.kinds(0, 1, 0, 0, 0);
        due("told(0, 3)", x.told(0, 3), 1);
        due("back()", x.back(), 2);
        due("told(0, 3)", x.told(0, 3), 0);
        due("count(1)", x.count(1), 0);
    }

    public static void main(String[] args) {
        drawn();
        drawnByActs();
        odds();
        refusals();
        images();
        imagesAndThought();
        Checks.end();
    }
}
