import java.util.Random;

/**
 * Promises 1 to 34: runs of calls with arguments from good to wild, each answer compared with the
 * document written another way (Oracle). The seeds are fixed, so every run of the test is the same.
 */
public final class OracleTest {
    /** Behind so many calls of a run its state is asked for at last. */
    private static final int CALLS = 400;
    private static final int MOST_CALLS = 512;
    private static final int[] WILD = {
        -1, -2, 10, 11, 40, 41, 99, 100, 160, 255, 256, 512, 999, 1000, 9999, 10000, 65535, 65536, 99999, 100000,
        262143, 262144, Integer.MAX_VALUE, Integer.MAX_VALUE - 1, Integer.MIN_VALUE, Integer.MIN_VALUE + 1
    };

    private final Random random;
    private RingOfStraw ring = new RingOfStraw();
    private Oracle oracle = new Oracle();
    private int calls = 0;
    private int wrong = 0;
    private final StringBuilder told = new StringBuilder();

    private OracleTest(int seed) {
        random = new Random(seed);
    }

    private int in(int least, int most) {
        return random.nextInt(40) == 0 ? WILD[random.nextInt(WILD.length)] : least + random.nextInt(most - least + 1);
    }

    private int m() {
        return in(0, random.nextInt(5) == 0 ? 5 : Math.max(0, oracle.men.size() - 1));
    }

    private int two() {
        int size = Math.max(2, oracle.men.size());
        int a = random.nextInt(size);
        int b = (a + 1 + random.nextInt(size - 1)) % size;
        return random.nextInt(20) == 0 ? in(0, 60) : 10 * a + b;
    }

    private int plan() {
        int plan = random.nextInt(262144);
        switch (random.nextInt(4)) {
            case 0: return random.nextInt(4) * 87381;
            case 1: return plan & random.nextInt(262144) & random.nextInt(262144);
            default: return in(0, 40) < 0 ? -1 : random.nextInt(60) == 0 ? in(-1, 262144) : plan;
        }
    }

    private int s() {
        return in(0, 3);
    }

    private String name() {
        return new String[] {"weight", "pace", "act", "his", "cell", "knee"}[random.nextInt(6)];
    }

    private String phrase(int deep) {
        if (deep <= 0) {
            return random.nextInt(3) == 0 ? "" + random.nextInt(random.nextInt(4) == 0 ? 10000 : 30) : name();
        }
        String left = phrase(deep - 1 - random.nextInt(2));
        String right = phrase(deep - 1 - random.nextInt(3));
        switch (random.nextInt(11)) {
            case 0: return left + " or " + right;
            case 1: return left + " and " + right;
            case 2: return "not " + left;
            case 3: return left + " < " + right;
            case 4: return left + "=" + right;
            case 5: return left + " + " + right;
            case 6: return left + " - " + right;
            case 7: return left + "*" + right;
            case 8: return "-" + left;
            case 9: return "- " + left;
            default: return "( " + left + " )";
        }
    }

    private String text() {
        StringBuilder text = new StringBuilder();
        if (random.nextInt(3) == 0) {
            text.append("force weight * ").append(phrase(1)).append(" + pace * ").append(phrase(1));
        } else {
            text.append("force ").append(phrase(random.nextInt(5)));
        }
        text.append(random.nextBoolean() ? ";" : "\n; ").append("stands ").append(phrase(random.nextInt(3)));
        text.append("; ahead ").append(random.nextInt(3) - 1).append(random.nextBoolean() ? "" : " + " + phrase(1)).append(" ;");
        for (int i = random.nextInt(3) == 0 ? 1 + random.nextInt(2) : 0; i > 0 && text.length() > 0; i--) {
            int at = random.nextInt(text.length());
            String bytes = " \n;();+-*<=109az\t#A\u00e9\u0000not -((";
            switch (random.nextInt(3)) {
                case 0: text.deleteCharAt(at); break;
                case 1: text.setCharAt(at, bytes.charAt(random.nextInt(bytes.length()))); break;
                default: text.insert(at, bytes.charAt(random.nextInt(bytes.length()))); break;
            }
        }
        return text.length() > 160 ? text.substring(0, 160) : text.toString();
    }

    private void compare(String call, long got, long want) {
        calls++;
        told.append(call).append(" -> ").append(got).append('\n');
        if (got != want) {
            wrong++;
            if (wrong == 1) {
                System.out.println(told + "due is " + want);
            }
        }
    }

    private interface Ring {
        long asked(RingOfStraw ring);
    }

    private void both(String call, Ring asked, Oracle.Call due) {
        compare(call, asked.asked(ring), Oracle.of(due));
    }

    private void feed(String text) {
        for (int i = 0; i < text.length(); i += 5) {
            int n = Math.min(5, text.length() - i);
            int[] b = new int[5];
            for (int k = 0; k < 5; k++) {
                b[k] = k < n ? text.charAt(i + k) : random.nextInt(256);
            }
            both("feed " + n + " of " + text.substring(i, i + n), x -> x.feed(n, b[0], b[1], b[2], b[3], b[4]),
                () -> oracle.feed(n, b[0], b[1], b[2], b[3], b[4]));
        }
    }

    private void readText() {
        String text = text();
        if (random.nextInt(4) > 0 && !oracle.tape.isEmpty()) {
            both("text()", x -> x.text(), () -> oracle.text());
        }
        feed(text);
        both("text()", x -> x.text(), () -> oracle.text());
        if (random.nextInt(2) == 0) {
            int t = oracle.laws.size() - 1;
            both("force " + t, x -> x.force(t), () -> oracle.force(t));
        }
    }

    private void sheetOfPlans() {
        int s = random.nextInt(4);
        int n = random.nextInt(12) == 0 ? random.nextInt(8) : oracle.men.size();
        int sort = random.nextInt(8) == 0 ? in(-1, 2) : 2;
        both("sheet " + s + " " + sort + " " + n, x -> x.sheet(s, sort, n), () -> oracle.sheet(s, sort, n));
        for (int i = 0; i < n; i++) {
            int at = i;
            int v = plan();
            both("cell " + s + " " + at + " " + v, x -> x.cell(s, at, v), () -> oracle.cell(s, at, v));
        }
    }

    private void filmToJudge() {
        int s = random.nextInt(4);
        int two = two();
        int a = plan();
        int b = plan();
        both("film", x -> x.film(s, two, a, b), () -> oracle.film(s, two, a, b));
        if (random.nextInt(4) == 0) {
            int i = in(0, 8);
            int v = in(0, 8);
            both("cell", x -> x.cell(s, i, v), () -> oracle.cell(s, i, v));
        } else if (random.nextInt(4) == 0) {
            int n = random.nextInt(4);
            int from = (s + 1) % 4;
            both("sheet", x -> x.sheet(from, 0, n), () -> oracle.sheet(from, 0, n));
            both("copy", x -> x.copy(s, 0, from, 0, n), () -> oracle.copy(s, 0, from, 0, n));
            judgeAll(from, two, a, b);
        }
        judgeAll(s, two, a, b);
    }

    private void judgeAll(int s, int two, int a, int b) {
        int sort = in(0, 2);
        int t = in(0, 8);
        int sortWhat = random.nextInt(2) * 10 + in(0, 1);
        String args = " " + s + " " + two + " " + a + " " + b;
        both("judge" + args, x -> x.judge(s, two, a, b), () -> oracle.judge(s, two, a, b));
        both("kinds" + args + " " + sort, x -> x.kinds(s, two, a, b, sort), () -> oracle.kinds(s, two, a, b, sort));
        both("acts" + args + " " + t, x -> x.acts(s, two, a, b, t), () -> oracle.acts(s, two, a, b, t));
        both("heavy" + args + " " + sortWhat, x -> x.heavy(s, two, a, b, sortWhat), () -> oracle.heavy(s, two, a, b, sortWhat));
        both("laws" + args, x -> x.laws(s, two, a, b), () -> oracle.laws(s, two, a, b));
        both("whose" + args, x -> x.whose(s, two / 10, a, b), () -> oracle.whose(s, two / 10, a, b));
    }

    private void all(int which) {
        int a = m();
        int b = random.nextInt(5) == 0 ? m() : two() % 10;
        int c = in(0, 9);
        int d = in(0, 99);
        int two = two();
        int p = plan();
        int q = plan();
        int s = s();
        String args = " " + a + " " + b + " " + c + " " + d + " " + two + " " + p + " " + q + " " + s;
        switch (which) {
            case 0: both("count" + args, x -> x.count(c), () -> oracle.count(c)); break;
            case 1: readText(); break;
            case 2: both("force" + args, x -> x.force(c), () -> oracle.force(c)); break;
            case 3: {
                int part = in(0, 2);
                int acts = random.nextInt(4) * 10 + random.nextInt(4);
                int told = random.nextInt(6) == 0 ? d : acts;
                both("asks" + args, x -> x.asks(part, a, told, c), () -> oracle.asks(part, a, told, c));
                break;
            }
            case 4: case 5: {
                int kindMore = in(0, 59);
                int weightPace = in(0, 9999);
                both("man " + kindMore + " " + weightPace, x -> x.man(kindMore, weightPace), () -> oracle.man(kindMore, weightPace));
                break;
            }
            case 6: both("put" + args, x -> x.put(a, c % 4, d), () -> oracle.put(a, c % 4, d)); break;
            case 7: both("put" + args, x -> x.put(a, 2, c), () -> oracle.put(a, 2, c)); break;
            case 8: both("told" + args, x -> x.told(a, c), () -> oracle.told(a, c)); break;
            case 9: case 10: both("bout" + args, x -> x.bout(two, p, q, c), () -> oracle.bout(two, p, q, c)); break;
            case 11: case 12: {
                int what = in(9, 20);
                both("bout" + args + " " + what, x -> x.bout(two, p, q, what), () -> oracle.bout(two, p, q, what));
                break;
            }
            case 13: case 14: both("fight" + args, x -> x.fight(a, b, p, q), () -> oracle.fight(a, b, p, q)); break;
            case 15: both("best" + args, x -> x.best(two, p, c % 5, d % 3), () -> oracle.best(two, p, c % 5, d % 3)); break;
            case 16: both("sure" + args, x -> x.sure(two, c % 4, d % 3), () -> oracle.sure(two, c % 4, d % 3)); break;
            case 17: both("chance" + args, x -> x.chance(two, c % 4, d % 3), () -> oracle.chance(two, c % 4, d % 3)); break;
            case 18: both("knees" + args, x -> x.knees(two, p, q), () -> oracle.knees(two, p, q)); break;
            case 19: both("beats" + args, x -> x.beats(a, p, q), () -> oracle.beats(a, p, q)); break;
            case 20: {
                sheetOfPlans();
                int what = random.nextInt(3) == 0 ? c - 4 : 10 + b;
                both("run" + args + " " + what, x -> x.run(s, c, what), () -> oracle.run(s, c, what));
                both("meet" + args, x -> x.meet(s, c), () -> oracle.meet(s, c));
                break;
            }
            case 21: case 22: filmToJudge(); break;
            case 23: judgeAll(s, two, p, q); break;
            case 24: {
                int seed = random.nextInt(4) == 0 ? in(99990, 100001) : in(0, 99999);
                both("drawn" + args + " " + seed, x -> x.drawn(seed, a, b, c % 3), () -> oracle.drawn(seed, a, b, c % 3));
                int seeds = in(0, 42);
                both("odds" + args + " " + seed + " " + seeds, x -> x.odds(seed, seeds, a, b, c % 3),
                    () -> oracle.odds(seed, seeds, a, b, c % 3));
                break;
            }
            case 25: if (random.nextInt(3) == 0) { both("image", x -> x.image(), () -> oracle.image()); } break;
            case 26: if (random.nextInt(3) == 0) { both("back", x -> x.back(), () -> oracle.back()); } break;
            case 27: {
                int sort = in(-1, 3);
                int n = in(-1, 42);
                both("sheet" + args + " " + sort + " " + n, x -> x.sheet(s, sort, n), () -> oracle.sheet(s, sort, n));
                break;
            }
            case 28: case 29: case 30: {
                int v = random.nextInt(2) == 0 ? plan() : random.nextInt() >> random.nextInt(31);
                int i = in(-1, 10);
                both("cell" + args + " " + i + " " + v, x -> x.cell(s, i, v), () -> oracle.cell(s, i, v));
                break;
            }
            case 31: {
                int other = s();
                int i = in(-1, 5);
                int j = in(-1, 5);
                int n = in(-1, 9);
                both("copy" + args + " " + other + " " + i + " " + j + " " + n, x -> x.copy(s, i, other, j, n),
                    () -> oracle.copy(s, i, other, j, n));
                break;
            }
            case 32: {
                int sort = in(-1, 3);
                int from = in(-1, 9);
                int n = in(-1, 7);
                both("menBy" + args + " " + sort + " " + from + " " + n, x -> x.menBy(s, sort, from, n),
                    () -> oracle.menBy(s, sort, from, n));
                break;
            }
            case 33: {
                int i = in(-1, 12);
                int kind = in(-1, 7);
                both("taken" + args + " " + i + " " + kind, x -> x.taken(i, kind), () -> oracle.taken(i, kind));
                break;
            }
            default: {
                int[] b5 = new int[5];
                for (int k = 0; k < 5; k++) {
                    b5[k] = random.nextInt(30) == 0 ? in(-1, 256) : random.nextInt(256);
                }
                int n = in(0, 6);
                both("feed" + n, x -> x.feed(n, b5[0], b5[1], b5[2], b5[3], b5[4]),
                    () -> oracle.feed(n, b5[0], b5[1], b5[2], b5[3], b5[4]));
                break;
            }
        }
    }

    /** All that can be told of the state, so that nothing changes unseen. */
    private void state() {
        for (int what = 0; what < 5; what++) {
            int w = what;
            both("count " + w, x -> x.count(w), () -> oracle.count(w));
        }
        for (int m = 0; m < 6; m++) {
            for (int what = 0; what < 7; what++) {
                int who = m;
                int w = what;
                both("told " + who + " " + w, x -> x.told(who, w), () -> oracle.told(who, w));
            }
        }
    }

    private int go() {
        int men = random.nextInt(8) == 0 ? 0 : 2 + random.nextInt(5);
        for (int i = 0; i < men; i++) {
            all(4);
        }
        int next = CALLS / 2;
        while (calls < CALLS && wrong == 0) {
            all(random.nextInt(35));
            if (calls >= next) {
                state();
                next += CALLS;
            }
        }
        state();
        if (calls > MOST_CALLS) {
            System.out.println("an object was used for " + calls + " calls");
            wrong++;
        }
        return wrong;
    }

    public static void main(String[] args) {
        int runs = args.length > 0 ? Integer.parseInt(args[0]) : 800;
        int bad = 0;
        for (int seed = 0; seed < runs && bad < 3; seed++) {
            OracleTest test = new OracleTest(seed);
            if (test.go() != 0) {
                System.out.println("run with seed " + seed + " is not as due");
                bad++;
            }
        }
        System.out.println(bad == 0 ? runs + " runs are as due" : "runs are not as due");
        if (bad != 0) {
            System.exit(1);
        }
    }
}
