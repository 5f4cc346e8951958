import java.util.ArrayList;
import java.util.List;

/** Rings and questions that the tests of edges share. */
final class Rings {
    static final int PUSH = 0, HOLD = 1, ASIDE = 2, PULL = 3;
    static final int P = Checks.plan("P"), H = Checks.plan("H"), A = Checks.plan("A"), L = Checks.plan("L");
    static final int[] ALWAYS = {P, H, A, L};
    static final int[] FAR = {Integer.MIN_VALUE, Integer.MIN_VALUE + 1, -1000, -10, 1000000, Integer.MAX_VALUE - 1, Integer.MAX_VALUE};
    private static final String REST = " ; stands 0 ; ahead 0 ;";

    private Rings() {
    }

    /** Plain wrestlers of those weights, by a text that says so of force; none stands or starts ahead. */
    static RingOfStraw by(String force, int... weights) {
        return of("force " + force + REST, weights);
    }

    static RingOfStraw of(String law, int... weights) {
        RingOfStraw x = Checks.ringBy(law);
        for (int weight : weights) {
            x.man(0, 100 * weight);
        }
        return x;
    }

    // ---- bouts

    /** Cells behind 0, 1, .. seconds of a bout, and that there are no more seconds than these. */
    static void cells(RingOfStraw x, int twoMen, String planA, String planB, int... want) {
        String bout = planA + " against " + planB + ", ";
        for (int i = 0; i < 10; i++) {
            int due = want[Math.min(i, want.length - 1)];
            Edge.due(bout + "cell behind " + i, x.bout(twoMen, Checks.plan(planA), Checks.plan(planB), 10 + i), due);
        }
        Edge.due(bout + "seconds", x.bout(twoMen, Checks.plan(planA), Checks.plan(planB), 1), want.length - 1);
    }

    static void winner(RingOfStraw x, int twoMen, String planA, String planB, int want) {
        Edge.due(planA + " against " + planB, x.bout(twoMen, Checks.plan(planA), Checks.plan(planB), 0), want);
    }

    /** The one forces so much by that act, as plain other ones of all weights tell by the cell behind one second. */
    static void forces(int kindMore, int weight, int act, int his, int want) {
        RingOfStraw x = by("weight");
        x.man(kindMore, 100 * weight);
        x.man(0, 0);
        int start = kindMore / 10 == 3 ? 5 : 4;
        for (int other = 0; other < 100; other++) {
            x.put(1, 0, other);
            int otherForces = his != ASIDE ? other : act == PUSH ? 2 * other : 0;
            int more = want - otherForces;
            int steps = Math.abs(more) > 20 ? 2 : Math.abs(more) > 0 ? 1 : 0;
            int due = Math.max(0, Math.min(8, start + Integer.signum(more) * steps));
            Edge.due("kindMore " + kindMore + " by " + act + " against " + other + " by " + his, x.bout(1, ALWAYS[act], ALWAYS[his], 11), due);
        }
    }

    /** The one stands so many seconds at the straw, the text saying so many. */
    static void stands(int kindMore, int says, int want) {
        // Each second would put him out, from the first one on.
        RingOfStraw x = of("force (weight = 9) * 900 ; stands " + says + " ; ahead (weight = 9) * 4 - 2 ;", 9);
        x.man(kindMore, 0);
        Edge.due("the start of " + kindMore, x.bout(1, P, P, 10), 7);
        Edge.due("seconds against " + kindMore, x.bout(1, P, P, 1), Math.min(9, want + 1));
        Edge.due("the end against " + kindMore, x.bout(1, P, P, 19), want < 9 ? 8 : 7);
    }

    /** The one starts so far ahead, the text saying so far. */
    static void starts(int kindMore, int says, int want) {
        RingOfStraw x = of("force 0 ; stands 0 ; ahead (weight = 9) * (0 + " + says + ") ;");
        x.man(kindMore, 900);
        x.man(0, 0);
        Edge.due("the start of " + kindMore + " by " + says, x.bout(1, P, P, 10), 4 + want);
        Edge.due("the start against " + kindMore + " by " + says, x.bout(10, P, P, 10), 4 - want);
    }

    /** A wrestler's WEIGHT, PACE, KNEE, WINS, LOSSES, KIND, MORE. */
    static void man(RingOfStraw x, int m, int... want) {
        for (int what = 0; what < want.length; what++) {
            Edge.due("told(" + m + ", " + what + ")", x.told(m, what), want[what]);
        }
    }

    static void knee(RingOfStraw x, int m, int knee, int wins, int losses) {
        Edge.due("KNEE of " + m, x.told(m, 2), knee);
        Edge.due("WINS of " + m, x.told(m, 3), wins);
        Edge.due("LOSSES of " + m, x.told(m, 4), losses);
    }

    // ---- texts

    static int read(String text) {
        return Checks.read(new RingOfStraw(), text);
    }

    static void isText(String text) {
        Edge.due(text, read(text), 1);
    }

    /** An E that may stand in a text. */
    static void isE(String phrase) {
        isText("force " + phrase + REST);
    }

    /** The fault is where ^ stands, which isn't part of the text. */
    static void fault(String marked) {
        int place = marked.indexOf('^');
        Edge.due(marked, read(marked.substring(0, place) + marked.substring(place + 1)), -100 - place);
    }

    static void faultOfE(String marked) {
        fault("force " + marked + REST);
    }

    /** What force says of one of weight 40, pace 10, knee 3, by act 2, the other's 1, in cell 5. */
    static void says(String phrase, int want) {
        RingOfStraw x = by(phrase, 40);
        x.put(0, 1, 10);
        x.put(0, 2, 3);
        Edge.due(phrase, x.asks(0, 0, 21, 5), want);
    }

    // ---- what is kept

    /**
     * All that an object keeps, as its answers tell: counts, wrestlers, texts, sheets and their numbers (those
     * that can be a wrestler's, two by two), the tape, the image. What is asked for here may change the object.
     */
    static List<Integer> kept(RingOfStraw x) {
        List<Integer> kept = new ArrayList<>();
        counts(x, kept);
        for (int t = 0; t < x.count(2); t++) {
            kept.add(x.force(t));
            kept.add(x.asks(0, 0, 21, 5));
            kept.add(x.asks(1, 0, 21, 5));
            kept.add(x.asks(2, 0, 21, 5));
        }
        kept.add(x.back());
        counts(x, kept);
        for (int s = 0; s < 4; s++) {
            for (int sort = 0; sort < 3; sort++) {
                kept.add(x.menBy(s, sort, 0, 0));
            }
            for (int i = 0; i < 8; i++) {
                kept.add(x.copy(s, i, s, 0, 0));
            }
            for (int sort = 0; sort < 3; sort++) {
                pairs(x, s, sort, kept);
            }
        }
        kept.add(x.text());
        return kept;
    }

    private static void counts(RingOfStraw x, List<Integer> kept) {
        for (int what = 0; what < 5; what++) {
            kept.add(x.count(what));
        }
        for (int m = 0; m < x.count(0); m++) {
            for (int what = 0; what < 7; what++) {
                kept.add(x.told(m, what));
            }
        }
    }

    /** Numbers of a sheet, seen as wrestlers that come and go. */
    private static void pairs(RingOfStraw x, int s, int sort, List<Integer> kept) {
        for (int i = 0; i < 4; i += 2) {
            x.image();
            if (x.menBy(s, sort, i, 1) == 1) {
                int m = x.count(0) - 1;
                kept.add(10 * x.told(m, 5) + x.told(m, 6));
                kept.add(100 * x.told(m, 0) + x.told(m, 1));
            }
            x.back();
        }
    }
}
