import java.util.ArrayList;
import java.util.List;

/**
 * The document once more, written another way on purpose: kinds as classes, texts as trees, rows as
 * Java's own, refusals of the host as what Java throws. OracleTest compares it with RingOfStraw.
 */
final class Oracle {
    static final long NO = -4611686018427387904L;

    /** A refusal, on its way to the caller. */
    static final class Refused extends RuntimeException {
        private static final long serialVersionUID = 1L;
        final int why;

        Refused(int why) {
            super(null, null, false, false);
            this.why = why;
        }
    }

    static void need(boolean isSo, int why) {
        if (!isSo) {
            throw new Refused(why);
        }
    }

    interface Call {
        long answer();
    }

    static long of(Call call) {
        try {
            return call.answer();
        } catch (Refused refused) {
            return refused.why;
        }
    }

    // ---- kinds

    static class Man {
        int more, weight, pace, knee, wins, losses;

        int kind() {
            return 0;
        }

        int forces(int that, int act, int his) {
            if (act == 2) {
                return his == 0 ? that + that : 0;
            }
            return that;
        }

        int stands(int that) {
            return that;
        }

        int starts(int that) {
            return that;
        }

        Man twin(int kind) {
            Man twin = newMan(kind);
            twin.more = more;
            twin.weight = weight;
            twin.pace = pace;
            twin.knee = knee;
            twin.wins = wins;
            twin.losses = losses;
            return twin;
        }
    }

    static class Pusher extends Man {
        @Override int kind() {
            return 1;
        }

        @Override int forces(int that, int act, int his) {
            return super.forces(that, act, his) + (act == 0 ? more * 3 : 0);
        }
    }

    static class Holder extends Man {
        @Override int kind() {
            return 2;
        }

        @Override int forces(int that, int act, int his) {
            return act == 1 ? super.forces(that, act, his) + 5 : super.forces(that, act, his) / 2;
        }

        @Override int stands(int that) {
            return super.stands(that) + 1;
        }
    }

    static class Bull extends Pusher {
        @Override int kind() {
            return 3;
        }

        @Override int forces(int that, int act, int his) {
            return his == 2 ? 0 : super.forces(that, act, his);
        }

        @Override int starts(int that) {
            return super.starts(that) + 1;
        }
    }

    static class Tree extends Holder {
        @Override int kind() {
            return 4;
        }

        @Override int stands(int that) {
            return super.stands(that) + more;
        }

        @Override int starts(int that) {
            return that < 0 ? that : 0;
        }
    }

    static class Sly extends Man {
        @Override int kind() {
            return 5;
        }

        @Override int forces(int that, int act, int his) {
            int his0 = super.forces(that, act, his);
            return act == his ? his0 / 2 : his0 + more;
        }
    }

    static Man newMan(int kind) {
        return switch (kind) {
            case 1 -> new Pusher();
            case 2 -> new Holder();
            case 3 -> new Bull();
            case 4 -> new Tree();
            case 5 -> new Sly();
            default -> new Man();
        };
    }

    static final List<Class<?>> CLASSES = List.of(Man.class, Pusher.class, Holder.class, Bull.class, Tree.class, Sly.class);

    // ---- texts

    interface Said {
        int by(Man man, int act, int his, int cell);
    }

    record Law(Said force, Said stands, Said ahead) {
        int says(int part, Man man, int act, int his, int cell) {
            return switch (part) {
                case 0 -> Math.max(0, Math.min(999, force.by(man, act, his, cell)));
                case 1 -> Math.max(0, Math.min(5, stands.by(man, act, his, cell)));
                default -> Math.max(-2, Math.min(2, ahead.by(man, act, his, cell)));
            };
        }
    }

    /** Reads a text of tokens cut beforehand, as far as a byte that begins none. */
    static final class Parser {
        final List<String> tokens = new ArrayList<>();
        final List<Integer> places = new ArrayList<>();
        int at = 0;
        int open = 0;

        Parser(String text) {
            java.util.regex.Matcher cut = java.util.regex.Pattern.compile("[a-z]+|[0-9]+|[ \n]+|.", java.util.regex.Pattern.DOTALL).matcher(text);
            while (cut.find()) {
                if (!cut.group().isBlank() || !cut.group().matches("[ \n]+")) {
                    tokens.add(cut.group());
                    places.add(cut.start());
                }
            }
            tokens.add("");
            places.add(text.length());
        }

        boolean next(String token) {
            return tokens.get(at).equals(token);
        }

        void take(String token) {
            need(next(token), -100 - places.get(at));
            at++;
        }

        void opening() {
            need(open < 5, -100 - places.get(at));
            open++;
            at++;
        }

        Law law() {
            Said[] parts = new Said[3];
            String[] keys = {"force", "stands", "ahead"};
            for (int i = 0; i < 3; i++) {
                take(keys[i]);
                parts[i] = e();
                take(";");
            }
            take("");
            return new Law(parts[0], parts[1], parts[2]);
        }

        Said e() {
            Said left = and();
            while (next("or")) {
                at++;
                Said a = left;
                Said b = and();
                left = (m, x, y, c) -> a.by(m, x, y, c) != 0 | b.by(m, x, y, c) != 0 ? 1 : 0;
            }
            return left;
        }

        Said and() {
            Said left = not();
            while (next("and")) {
                at++;
                Said a = left;
                Said b = not();
                left = (m, x, y, c) -> a.by(m, x, y, c) != 0 & b.by(m, x, y, c) != 0 ? 1 : 0;
            }
            return left;
        }

        Said not() {
            if (next("not")) {
                opening();
                Said a = not();
                open--;
                return (m, x, y, c) -> a.by(m, x, y, c) == 0 ? 1 : 0;
            }
            Said a = sum();
            if (next("<")) {
                at++;
                Said b = sum();
                return (m, x, y, c) -> a.by(m, x, y, c) < b.by(m, x, y, c) ? 1 : 0;
            }
            if (next("=")) {
                at++;
                Said b = sum();
                return (m, x, y, c) -> a.by(m, x, y, c) == b.by(m, x, y, c) ? 1 : 0;
            }
            return a;
        }

        Said sum() {
            Said left = term();
            while (next("+") || next("-")) {
                int sign = next("+") ? 1 : -1;
                at++;
                Said a = left;
                Said b = term();
                left = (m, x, y, c) -> a.by(m, x, y, c) + sign * b.by(m, x, y, c);
            }
            return left;
        }

        Said term() {
            Said left = one();
            while (next("*")) {
                at++;
                Said a = left;
                Said b = one();
                left = (m, x, y, c) -> a.by(m, x, y, c) * b.by(m, x, y, c);
            }
            return left;
        }

        Said one() {
            String token = tokens.get(at);
            if (next("-")) {
                opening();
                Said a = one();
                open--;
                return (m, x, y, c) -> -a.by(m, x, y, c);
            }
            if (next("(")) {
                opening();
                Said a = e();
                take(")");
                open--;
                return a;
            }
            if (token.matches("[0-9]{1,4}")) {
                at++;
                int number = Integer.parseInt(token);
                return (m, x, y, c) -> number;
            }
            Said name = switch (token) {
                case "weight" -> (m, x, y, c) -> m.weight;
                case "pace" -> (m, x, y, c) -> m.pace;
                case "act" -> (m, x, y, c) -> x;
                case "his" -> (m, x, y, c) -> y;
                case "cell" -> (m, x, y, c) -> c;
                case "knee" -> (m, x, y, c) -> m.knee;
                default -> null;
            };
            need(name != null, -100 - places.get(at));
            at++;
            return name;
        }
    }

    // ---- bouts

    record Bout(List<Integer> cells, int who) {
        int seconds() {
            return cells.size() - 1;
        }

        int cell(int second) {
            return cells.get(Math.min(second, seconds()));
        }
    }

    static int act(int plan, int t) {
        return plan / (int) Math.pow(4, t) % 4;
    }

    /** who: 0 the one, 1 the other one, -1 nobody. */
    static Bout bout(Law law, Man one, Man other, int planA, int planB) {
        int stayA = Math.max(0, Math.min(9, one.stands(law.says(1, one, 0, 0, 0))));
        int stayB = Math.max(0, Math.min(9, other.stands(law.says(1, other, 0, 0, 0))));
        int cell = 4 + one.starts(law.says(2, one, 0, 0, 4)) - other.starts(law.says(2, other, 0, 0, 4));
        cell = cell < 1 ? 1 : cell > 7 ? 7 : cell;
        List<Integer> cells = new ArrayList<>(List.of(cell));
        int stoodA = 0;
        int stoodB = 0;
        for (int t = 0; t <= 8; t++) {
            int a = act(planA, t);
            int b = act(planB, t);
            int strongA = Math.max(0, one.forces(law.says(0, one, a, b, cell), a, b) - one.knee);
            int strongB = Math.max(0, other.forces(law.says(0, other, b, a, 8 - cell), b, a) - other.knee);
            if (strongA > strongB) {
                cell += strongA - strongB > 20 ? 2 : 1;
            } else if (strongA < strongB) {
                cell -= strongB - strongA > 20 ? 2 : 1;
            }
            if (cell >= 8) {
                if (stoodB < stayB) {
                    stoodB++;
                    cell = 7;
                } else {
                    cells.add(8);
                    return new Bout(cells, 0);
                }
            } else if (cell <= 0) {
                if (stoodA < stayA) {
                    stoodA++;
                    cell = 1;
                } else {
                    cells.add(0);
                    return new Bout(cells, 1);
                }
            }
            cells.add(cell);
        }
        return new Bout(cells, cell > 4 ? 0 : cell < 4 ? 1 : -1);
    }

    // ---- what is kept

    List<Man> men = new ArrayList<>();
    int days = 0;
    int law = 0;
    List<Man> keptMen = null;
    int keptDays, keptLaw;
    String tape = "";
    final List<Law> laws = new ArrayList<>(List.of(new Parser("force weight + pace * act ; stands 2 ; ahead 0 ;").law()));
    final Object[] sheets = new Object[4];

    static List<Man> twins(List<Man> men) {
        List<Man> twins = new ArrayList<>();
        for (Man man : men) {
            twins.add(man.twin(man.kind()));
        }
        return twins;
    }

    Law theLaw() {
        return laws.get(law);
    }

    boolean has(int m) {
        return m >= 0 && m < men.size();
    }

    void needTwo(int a, int b) {
        need(has(a) && has(b) && a != b, -5);
    }

    void needPair(int twoMen) {
        need(twoMen >= 0 && twoMen <= 55, -5);
        needTwo(twoMen / 10, twoMen % 10);
    }

    static void needPlans(int... plans) {
        for (int plan : plans) {
            need(plan >= 0 && plan <= 262143, -7);
        }
    }

    static void needIn(int v, int least, int most, int why) {
        need(v >= least && v <= most, why);
    }

    Bout thought(int a, int b, int planA, int planB) {
        return bout(theLaw(), men.get(a), men.get(b), planA, planB);
    }

    static int shortToPlan(int shortPlan, int n) {
        int plan = 0;
        for (int t = 8; t >= 0; t--) {
            plan = plan * 4 + act(shortPlan, t < n ? t : n - 1);
        }
        return plan;
    }

    static int[] numbers(Object row) {
        int[] numbers = new int[java.lang.reflect.Array.getLength(row)];
        for (int i = 0; i < numbers.length; i++) {
            numbers[i] = java.lang.reflect.Array.getInt(row, i);
        }
        return numbers;
    }

    int[] numbersOf(int s) {
        needIn(s, 0, 3, -2);
        need(sheets[s] != null, -11);
        return numbers(sheets[s]);
    }

    static int sortOf(Object row) {
        return row instanceof byte[] ? 0 : row instanceof short[] ? 1 : 2;
    }

    static long fraction(long above, long below, int part) {
        long common = java.math.BigInteger.valueOf(above).gcd(java.math.BigInteger.valueOf(below)).longValue();
        return (part == 0 ? above : below) / common;
    }

    // ---- the calls

    int count(int what) {
        needIn(what, 0, 4, -2);
        return new int[] {men.size(), days, laws.size(), law, tape.length()}[what];
    }

    int feed(int n, int a, int b, int c, int d, int e) {
        needIn(n, 1, 5, -2);
        int[] all = {a, b, c, d, e};
        for (int v : all) {
            needIn(v, 0, 255, -2);
        }
        need(tape.length() + n <= 160, -4);
        for (int i = 0; i < n; i++) {
            tape += (char) all[i];
        }
        return tape.length();
    }

    int text() {
        need(laws.size() < 6, -4);
        String text = tape;
        tape = "";
        laws.add(new Parser(text).law());
        return laws.size() - 1;
    }

    int force(int t) {
        needIn(t, 0, laws.size() - 1, -2);
        int was = law;
        law = t;
        return was;
    }

    int asks(int part, int m, int acts, int cell) {
        needIn(part, 0, 2, -1000);
        need(has(m), -1000);
        needIn(acts, 0, 33, -1000);
        needIn(acts % 10, 0, 3, -1000);
        needIn(cell, 0, 8, -1000);
        return theLaw().says(part, men.get(m), acts / 10, acts % 10, cell);
    }

    int man(int kindMore, int weightPace) {
        needIn(kindMore, 0, 59, -2);
        needIn(weightPace, 0, 9999, -2);
        need(men.size() < 6, -4);
        Man man = newMan(kindMore / 10);
        man.more = kindMore % 10;
        man.weight = weightPace / 100;
        man.pace = weightPace % 100;
        men.add(man);
        return men.size() - 1;
    }

    int put(int m, int what, int v) {
        need(has(m), -5);
        needIn(what, 0, 2, -7);
        needIn(v, 0, what == 2 ? 9 : 99, -7);
        int was = told(m, what);
        Man man = men.get(m);
        if (what == 0) {
            man.weight = v;
        } else if (what == 1) {
            man.pace = v;
        } else {
            man.knee = v;
        }
        return was;
    }

    int told(int m, int what) {
        need(has(m), -5);
        needIn(what, 0, 6, -7);
        Man x = men.get(m);
        return new int[] {x.weight, x.pace, x.knee, x.wins, x.losses, x.kind(), x.more}[what];
    }

    int bout(int twoMen, int planA, int planB, int what) {
        needPair(twoMen);
        needPlans(planA, planB);
        need(what == 0 || what == 1 || what >= 10 && what <= 19, -7);
        Bout bout = thought(twoMen / 10, twoMen % 10, planA, planB);
        if (what >= 10) {
            return bout.cell(what - 10);
        }
        return what == 1 ? bout.seconds() : bout.who < 0 ? -1 : new int[] {twoMen / 10, twoMen % 10}[bout.who];
    }

    static int truly(Law law, List<Man> men, int a, int b, int planA, int planB) {
        Bout bout = bout(law, men.get(a), men.get(b), planA, planB);
        if (bout.who < 0) {
            return -1;
        }
        int winner = bout.who == 0 ? a : b;
        Man loser = men.get(a + b - winner);
        men.get(winner).wins += men.get(winner).wins < 999 ? 1 : 0;
        loser.losses += loser.losses < 999 ? 1 : 0;
        loser.knee += bout.seconds() < 5 && loser.knee < 9 ? 1 : 0;
        return winner;
    }

    int fight(int a, int b, int planA, int planB) {
        needTwo(a, b);
        needPlans(planA, planB);
        return truly(theLaw(), men, a, b, planA, planB);
    }

    int best(int twoMen, int planB, int n, int what) {
        needPair(twoMen);
        needPlans(planB);
        needIn(n, 1, 3, -7);
        needIn(what, 0, 1, -7);
        for (int seconds = 1; seconds <= 9; seconds++) {
            for (int s = 0; s < Math.pow(4, n); s++) {
                Bout bout = thought(twoMen / 10, twoMen % 10, shortToPlan(s, n), planB);
                if (bout.who == 0 && bout.seconds() == seconds) {
                    return what == 0 ? s : seconds;
                }
            }
        }
        return -1;
    }

    int[] wins(int twoMen, int n) {
        int[] wins = new int[(int) Math.pow(4, n)];
        for (int i = 0; i < wins.length; i++) {
            for (int j = 0; j < wins.length; j++) {
                int who = thought(twoMen / 10, twoMen % 10, shortToPlan(i, n), shortToPlan(j, n)).who;
                wins[i] += who == 0 ? 1 : 0;
            }
        }
        return wins;
    }

    int sure(int twoMen, int n, int what) {
        needPair(twoMen);
        needIn(n, 1, 2, -7);
        needIn(what, 0, 1, -7);
        int[] wins = wins(twoMen, n);
        int most = java.util.Arrays.stream(wins).max().getAsInt();
        for (int i = 0; what == 0; i++) {
            if (wins[i] == most) {
                return i;
            }
        }
        return most;
    }

    long chance(int twoMen, int n, int part) {
        try {
            needPair(twoMen);
            needIn(n, 1, 2, -7);
            needIn(part, 0, 1, -7);
        } catch (Refused refused) {
            return NO;
        }
        int[] wins = wins(twoMen, n);
        return fraction(java.util.Arrays.stream(wins).sum(), (long) wins.length * wins.length, part);
    }

    int knees(int twoMen, int planA, int planB) {
        needPair(twoMen);
        needPlans(planA, planB);
        for (int knee = 0; knee <= 9; knee++) {
            Man one = men.get(twoMen / 10);
            Man thought = one.twin(one.kind());
            thought.knee = knee;
            if (bout(theLaw(), thought, men.get(twoMen % 10), planA, planB).who == 1) {
                return knee;
            }
        }
        return -1;
    }

    int beats(int m, int planA, int planB) {
        need(has(m), -5);
        needPlans(planA, planB);
        int bits = 0;
        for (int i = 0; i < men.size(); i++) {
            bits += i != m && thought(m, i, planA, planB).who == 0 ? Math.pow(2, i) : 0;
        }
        return bits;
    }

    int[] plansOf(int s) {
        int[] plans = numbersOf(s);
        need(plans.length == men.size(), -2);
        for (int plan : plans) {
            needIn(plan, 0, 262143, -2);
        }
        return plans;
    }

    static int spend(Law law, List<Man> men, int[] plans, int n) {
        for (int day = 1; day <= n; day++) {
            for (int a = 0; a < men.size(); a++) {
                for (int b = a + 1; b < men.size(); b++) {
                    truly(law, men, a, b, plans[a], plans[b]);
                }
            }
        }
        int leader = -1;
        for (int m = men.size() - 1; m >= 0; m--) {
            if (leader < 0 || men.get(m).wins >= men.get(leader).wins) {
                leader = m;
            }
        }
        return leader;
    }

    int meet(int s, int n) {
        int[] plans = plansOf(s);
        needIn(n, 1, 9, -7);
        need(days + n <= 999, -4);
        days += n;
        return spend(theLaw(), men, plans, n);
    }

    int run(int s, int n, int what) {
        int[] plans = plansOf(s);
        needIn(n, 0, 9, -7);
        need(what == 0 || what >= 10 && has(what - 10), -7);
        List<Man> twins = twins(men);
        int leader = spend(theLaw(), twins, plans, n);
        return what == 0 ? leader : twins.get(what - 10).wins;
    }

    int[] cellsOf(int s) {
        int[] cells = numbersOf(s);
        need(cells.length <= 9, -2);
        return cells;
    }

    static int otherwise(int[] cells, Bout bout) {
        for (int i = 0; i < cells.length; i++) {
            if (cells[i] != bout.cell(i + 1)) {
                return i;
            }
        }
        return -1;
    }

    int judge(int s, int twoMen, int planA, int planB) {
        int[] cells = cellsOf(s);
        needPair(twoMen);
        needPlans(planA, planB);
        return otherwise(cells, thought(twoMen / 10, twoMen % 10, planA, planB));
    }

    int kinds(int s, int twoMen, int planA, int planB, int sort) {
        judge(s, twoMen, planA, planB);
        needIn(sort, 0, 2, -7);
        int bits = 0;
        for (int v = 0; v < (sort == 0 ? 6 : 10); v++) {
            Man one = men.get(twoMen / 10);
            Man thought = one.twin(sort == 0 ? v : one.kind());
            thought.more = sort == 1 ? v : one.more;
            thought.knee = sort == 2 ? v : one.knee;
            Bout bout = bout(theLaw(), thought, men.get(twoMen % 10), planA, planB);
            bits += otherwise(cellsOf(s), bout) < 0 ? Math.pow(2, v) : 0;
        }
        return bits;
    }

    int acts(int s, int twoMen, int planA, int planB, int t) {
        judge(s, twoMen, planA, planB);
        needIn(t, 0, 8, -7);
        int bits = 0;
        for (int v = 0; v < 4; v++) {
            int plan = planA + (v - act(planA, t)) * (int) Math.pow(4, t);
            bits += judge(s, twoMen, plan, planB) < 0 ? Math.pow(2, v) : 0;
        }
        return bits;
    }

    int heavy(int s, int twoMen, int planA, int planB, int sortWhat) {
        judge(s, twoMen, planA, planB);
        need(List.of(0, 1, 10, 11).contains(sortWhat), -7);
        List<Integer> fitting = new ArrayList<>();
        for (int v = 0; v <= 99; v++) {
            Man one = men.get(twoMen / 10);
            Man thought = one.twin(one.kind());
            if (sortWhat < 10) {
                thought.weight = v;
            } else {
                thought.pace = v;
            }
            if (otherwise(cellsOf(s), bout(theLaw(), thought, men.get(twoMen % 10), planA, planB)) < 0) {
                fitting.add(v);
            }
        }
        return sortWhat % 10 == 0 ? fitting.size() : fitting.isEmpty() ? -1 : fitting.get(0);
    }

    int laws(int s, int twoMen, int planA, int planB) {
        judge(s, twoMen, planA, planB);
        int bits = 0;
        for (int t = 0; t < laws.size(); t++) {
            Bout bout = bout(laws.get(t), men.get(twoMen / 10), men.get(twoMen % 10), planA, planB);
            bits += otherwise(cellsOf(s), bout) < 0 ? Math.pow(2, t) : 0;
        }
        return bits;
    }

    int whose(int s, int m, int planA, int planB) {
        int[] cells = cellsOf(s);
        need(has(m), -5);
        needPlans(planA, planB);
        int bits = 0;
        for (int i = 0; i < men.size(); i++) {
            bits += i != m && otherwise(cells, thought(m, i, planA, planB)) < 0 ? Math.pow(2, i) : 0;
        }
        return bits;
    }

    int film(int s, int twoMen, int planA, int planB) {
        needIn(s, 0, 3, -2);
        needPair(twoMen);
        needPlans(planA, planB);
        Bout bout = thought(twoMen / 10, twoMen % 10, planA, planB);
        byte[] row = new byte[bout.seconds()];
        for (int i = 0; i < row.length; i++) {
            row[i] = (byte) bout.cell(i + 1);
        }
        sheets[s] = row;
        return row.length;
    }

    Bout byLots(int seed, int a, int b) {
        java.math.BigInteger prime = java.math.BigInteger.valueOf(2147483647);
        java.math.BigInteger lot = java.math.BigInteger.valueOf(seed + 1);
        int[] plans = new int[2];
        for (int i = 0; i < 2; i++) {
            lot = lot.multiply(java.math.BigInteger.valueOf(48271)).mod(prime);
            plans[i] = lot.mod(java.math.BigInteger.valueOf(262144)).intValue();
        }
        return thought(a, b, plans[0], plans[1]);
    }

    int drawn(int seed, int a, int b, int what) {
        needTwo(a, b);
        needIn(seed, 0, 99999, -7);
        needIn(what, 0, 1, -7);
        Bout bout = byLots(seed, a, b);
        return what == 1 ? bout.seconds() : bout.who < 0 ? -1 : bout.who == 0 ? a : b;
    }

    long odds(int seed, int seeds, int a, int b, int part) {
        if (seed < 0 || seed > 99999 || seeds < 1 || seeds > 40 || !has(a) || !has(b) || a == b || part < 0 || part > 1) {
            return NO;
        }
        int wins = 0;
        for (int i = seed; i < seed + seeds; i++) {
            wins += byLots(i, a, b).who == 0 ? 1 : 0;
        }
        return fraction(wins, seeds, part);
    }

    int image() {
        keptMen = twins(men);
        keptDays = days;
        keptLaw = law;
        return men.size();
    }

    int back() {
        need(keptMen != null, -3);
        men = twins(keptMen);
        days = keptDays;
        law = keptLaw;
        return men.size();
    }

    int sheet(int s, int sort, int n) {
        needIn(s, 0, 3, -2);
        needIn(sort, -1, 2, -2);
        try {
            need(sort < 0 || n <= 40, -2);
            sheets[s] = switch (sort) {
                case 0 -> new byte[n];
                case 1 -> new short[n];
                case 2 -> new int[n];
                default -> null;
            };
        } catch (NegativeArraySizeException below) {
            return -14;
        }
        return 1;
    }

    int cell(int s, int i, int v) {
        needIn(s, 0, 3, -2);
        try {
            if (sheets[s] instanceof byte[] row) {
                row[i] = (byte) v;
            } else if (sheets[s] instanceof short[] row) {
                row[i] = (short) v;
            } else {
                ((int[]) sheets[s])[i] = v;
            }
        } catch (NullPointerException missing) {
            return -11;
        } catch (IndexOutOfBoundsException outside) {
            return -12;
        }
        return 1;
    }

    int copy(int s, int i, int other, int j, int n) {
        needIn(s, 0, 3, -2);
        needIn(other, 0, 3, -2);
        try {
            System.arraycopy(sheets[s], i, sheets[other], j, n);
        } catch (NullPointerException missing) {
            return -11;
        } catch (ArrayStoreException unlike) {
            return -13;
        } catch (IndexOutOfBoundsException outside) {
            return -12;
        }
        return n;
    }

    int menBy(int s, int sort, int from, int n) {
        needIn(s, 0, 3, -2);
        needIn(sort, 0, 2, -2);
        needIn(n, 0, 6, -2);
        int[] numbers = numbersOf(s);
        need(sortOf(sheets[s]) == sort, -13);
        int came = 0;
        try {
            for (int k = 0; k < n; k++) {
                int kindMore = numbers[from + k + k];
                int weightPace = numbers[from + k + k + 1];
                came += of(() -> man(kindMore, weightPace)) >= 0 ? 1 : 0;
            }
        } catch (IndexOutOfBoundsException outside) {
            return -12;
        }
        return came;
    }

    int taken(int i, int kind) {
        needIn(kind, 0, 6, -2);
        needIn(i, 0, 11, -12);
        need(has(i % 6), -11);
        Object there = i < 6 ? men.get(i) : Integer.valueOf(men.get(i - 6).wins);
        try {
            Class<?> wanted = kind < 6 ? CLASSES.get(kind) : Integer.class;
            Object taken = wanted.cast(there);
            return taken instanceof Integer wins ? wins : i;
        } catch (ClassCastException unlike) {
            return -13;
        }
    }
}
