/** Counts the answers that are not as due, and tells them. */
final class Checks {
    private static final int MOST_TOLD = 60;
    private static int asked = 0;
    private static int wrong = 0;

    private Checks() {
    }

    static void due(String call, long got, long want) {
        asked++;
        if (got != want) {
            wrong++;
            if (wrong <= MOST_TOLD) {
                System.out.println(call + " answered " + got + ", due is " + want);
            }
        }
    }

    static void due(String call, boolean isSo) {
        due(call, isSo ? 1 : 0, 1);
    }

    /** A plan of nine seconds: P push, H hold, A aside, L pull; the last one goes on to the end. */
    static int plan(String acts) {
        int plan = 0;
        for (int t = 0; t < 9; t++) {
            plan |= "PHAL".indexOf(acts.charAt(Math.min(t, acts.length() - 1))) << 2 * t;
        }
        return plan;
    }

    static void feed(RingOfStraw ring, String text) {
        for (int i = 0; i < text.length(); i += 5) {
            int n = Math.min(5, text.length() - i);
            ring.feed(n, at(text, i), at(text, i + 1), at(text, i + 2), at(text, i + 3), at(text, i + 4));
        }
    }

    private static int at(String text, int i) {
        return i < text.length() ? text.charAt(i) : 0;
    }

    /** What text() answers to that text, which must fit on the tape. */
    static int read(RingOfStraw ring, String text) {
        feed(ring, text);
        return ring.text();
    }

    /** A ring whose law is that text. */
    static RingOfStraw ringBy(String law) {
        RingOfStraw ring = new RingOfStraw();
        int number = read(ring, law);
        due("the text of " + law, number, 1);
        ring.force(number);
        return ring;
    }

    /** Makes a sheet of ints of those numbers. */
    static void sheet(RingOfStraw ring, int s, int... numbers) {
        ring.sheet(s, 2, numbers.length);
        for (int i = 0; i < numbers.length; i++) {
            ring.cell(s, i, numbers[i]);
        }
    }

    static void end() {
        System.out.println(wrong == 0 ? asked + " answers are as due" : wrong + " answers are not as due");
        if (wrong != 0) {
            System.exit(1);
        }
    }
}
