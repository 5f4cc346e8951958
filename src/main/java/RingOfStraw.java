import java.util.Arrays;

/**
 * A ring of straw: wrestlers of kinds, bouts of two by plans in nine cells, texts that tell how
 * strong one is. What each call answers is told by the document's promises; README.md says how to
 * use it.
 *
 * <p>Every object that a call needs is made here at the beginning and used again, because all calls
 * of a run share one room.
 */
public final class RingOfStraw {
    public static final int NONE = -1, BAD = -2, STATE = -3, FULL = -4;
    public static final long NO = -4611686018427387904L;

    private static final int NO_MAN = -5, NOT_SO = -7;
    private static final int MISSING = -11, OUTSIDE = -12, UNLIKE = -13, BELOW = -14;
    private static final int NO_SAYING = -1000, FAULT = -100, FINE = 0;

    private static final int MEN = 6, KINDS = 6, DIGITS = 10, MOST_WEIGHT = 99, MOST_COUNTED = 999;
    private static final int WRESTLER = 0, PUSHER = 1, HOLDER = 2, BULL = 3, TREE = 4, SLY = 5;
    private static final int WEIGHT = 0, PACE = 1, KNEE = 2, WINS = 3, LOSSES = 4, KIND = 5, MORE = 6;

    private static final int ACTS = 4, PUSH = 0, HOLD = 1, ASIDE = 2;
    private static final int MOST_PLAN = 262143, PLANS = 262144;
    private static final int SECONDS = 9, QUICK = 5;
    private static final int CELLS = 9, WEST_STRAW = 0, MIDDLE = 4, EAST_STRAW = 8, FAR = 20;

    private static final int PARTS = 3, FORCE = 0, STANDS = 1, AHEAD = 2;
    private static final int TEXTS = 6, TAPE = 160, BYTE = 255, FED = 5;
    private static final String FIRST_LAW = "force weight + pace * act ; stands 2 ; ahead 0 ;";

    private static final int SHEETS = 4, ROW = 40, NO_SORT = -1, BYTES = 0, SHORTS = 1, INTS = 2;
    private static final int MOST_SEED = 99999, MOST_SEEDS = 40;
    private static final long LOT_FACTOR = 48271L, LOT_MODULUS = 2147483647L;

    private final Stable ring = new Stable();
    private final Stable thought = new Stable();
    private final Stable kept = new Stable();
    private final Wrestler guess = new Wrestler();
    private final Reader reader = new Reader();
    private final Text[] texts = new Text[TEXTS];
    private final Sheet[] sheets = new Sheet[SHEETS];
    private final Scale scale = new Scale();
    private final Match match = new Match(scale);
    private int textCount = 1;
    private boolean isKept = false;

    public RingOfStraw() {
        for (int i = 0; i < texts.length; i++) {
            texts[i] = new Text();
        }
        for (int i = 0; i < sheets.length; i++) {
            sheets[i] = new Sheet();
        }
        for (int i = 0; i < FIRST_LAW.length(); i++) {
            reader.add(FIRST_LAW.charAt(i));
        }
        reader.readInto(texts[0]);
        reader.clear();
    }

    // ---- wrestlers, the law

    public int count(int what) {
        switch (what) {
            case 0: return ring.size;
            case 1: return ring.days;
            case 2: return textCount;
            case 3: return ring.law;
            case 4: return reader.size;
            default: return BAD;
        }
    }

    public int feed(int n, int a, int b, int c, int d, int e) {
        boolean areBytes = isByte(a) && isByte(b) && isByte(c) && isByte(d) && isByte(e);
        if (n < 1 || n > FED || !areBytes) {
            return BAD;
        }
        if (reader.size + n > TAPE) {
            return FULL;
        }
        reader.add(a);
        if (n > 1) {
            reader.add(b);
        }
        if (n > 2) {
            reader.add(c);
        }
        if (n > 3) {
            reader.add(d);
        }
        if (n > 4) {
            reader.add(e);
        }
        return reader.size;
    }

    public int text() {
        if (textCount >= TEXTS) {
            return FULL;
        }
        int place = reader.readInto(textAt(textCount));
        reader.clear();
        if (place >= 0) {
            return FAULT - place;
        }
        textCount++;
        return textCount - 1;
    }

    public int force(int t) {
        if (t < 0 || t >= textCount) {
            return BAD;
        }
        int was = ring.law;
        ring.law = t;
        return was;
    }

    public int asks(int part, int m, int acts, int cell) {
        boolean areActs = acts >= 0 && acts / DIGITS < ACTS && acts % DIGITS < ACTS;
        boolean isCell = cell >= 0 && cell < CELLS;
        if (part < 0 || part >= PARTS || !ring.has(m) || !areActs || !isCell) {
            return NO_SAYING;
        }
        return scale.says(theLaw(), part, ring.at(m), acts / DIGITS, acts % DIGITS, cell);
    }

    public int man(int kindMore, int weightPace) {
        boolean isWeightPace = weightPace >= 0 && weightPace < 100 * (MOST_WEIGHT + 1);
        if (kindMore < 0 || kindMore >= DIGITS * KINDS || !isWeightPace) {
            return BAD;
        }
        if (ring.size >= MEN) {
            return FULL;
        }
        ring.at(ring.size).comes(kindMore / DIGITS, kindMore % DIGITS, weightPace / 100, weightPace % 100);
        ring.size++;
        return ring.size - 1;
    }

    public int put(int m, int what, int v) {
        if (!ring.has(m)) {
            return NO_MAN;
        }
        int most = what == KNEE ? DIGITS - 1 : MOST_WEIGHT;
        if (what < WEIGHT || what > KNEE || v < 0 || v > most) {
            return NOT_SO;
        }
        int was = ring.at(m).tells(what);
        ring.at(m).becomes(what, v);
        return was;
    }

    public int told(int m, int what) {
        if (!ring.has(m)) {
            return NO_MAN;
        }
        return what < WEIGHT || what > MORE ? NOT_SO : ring.at(m).tells(what);
    }

    // ---- bouts

    public int bout(int twoMen, int planA, int planB, int what) {
        if (!isPair(twoMen)) {
            return NO_MAN;
        }
        boolean isCellAsked = what >= 10 && what <= 10 + SECONDS;
        if (!arePlans(planA, planB) || what != 0 && what != 1 && !isCellAsked) {
            return NOT_SO;
        }
        match.pair(theOne(twoMen), theOther(twoMen), theLaw());
        match.goThrough(planA, planB);
        if (isCellAsked) {
            return match.cellBehind(what - 10);
        }
        return what == 0 ? winnerOf(twoMen / DIGITS, twoMen % DIGITS) : match.seconds;
    }

    public int fight(int a, int b, int planA, int planB) {
        if (!areTwo(a, b)) {
            return NO_MAN;
        }
        if (!arePlans(planA, planB)) {
            return NOT_SO;
        }
        clash(ring.at(a), ring.at(b), planA, planB);
        return winnerOf(a, b);
    }

    // ---- what is best

    public int best(int twoMen, int planB, int n, int what) {
        if (!isPair(twoMen)) {
            return NO_MAN;
        }
        if (!isPlan(planB) || n < 1 || n > 3 || what != 0 && what != 1) {
            return NOT_SO;
        }
        match.pair(theOne(twoMen), theOther(twoMen), theLaw());
        int least = NONE;
        int fewest = NONE;
        for (int plan = 0; plan < shortPlans(n); plan++) {
            match.goThrough(wholePlan(plan, n), planB);
            if (match.lead > 0 && (least < 0 || match.seconds < fewest)) {
                least = plan;
                fewest = match.seconds;
            }
        }
        return what == 0 ? least : fewest;
    }

    public int sure(int twoMen, int n, int what) {
        if (!isPair(twoMen)) {
            return NO_MAN;
        }
        if (n < 1 || n > 2 || what != 0 && what != 1) {
            return NOT_SO;
        }
        match.pair(theOne(twoMen), theOther(twoMen), theLaw());
        int surest = 0;
        int most = winsAgainstAll(0, n);
        for (int plan = 1; plan < shortPlans(n); plan++) {
            int wins = winsAgainstAll(plan, n);
            if (wins > most) {
                surest = plan;
                most = wins;
            }
        }
        return what == 0 ? surest : most;
    }

    public long chance(int twoMen, int n, int part) {
        if (!isPair(twoMen) || n < 1 || n > 2 || part != 0 && part != 1) {
            return NO;
        }
        match.pair(theOne(twoMen), theOther(twoMen), theLaw());
        int wins = 0;
        for (int plan = 0; plan < shortPlans(n); plan++) {
            wins += winsAgainstAll(plan, n);
        }
        return inLowestTerms(wins, shortPlans(n) * shortPlans(n), part);
    }

    public int knees(int twoMen, int planA, int planB) {
        if (!isPair(twoMen)) {
            return NO_MAN;
        }
        if (!arePlans(planA, planB)) {
            return NOT_SO;
        }
        guess.becomesLike(theOne(twoMen));
        for (int knee = 0; knee < DIGITS; knee++) {
            guess.knee = knee;
            match.pair(guess, theOther(twoMen), theLaw());
            match.goThrough(planA, planB);
            if (match.lead < 0) {
                return knee;
            }
        }
        return NONE;
    }

    public int beats(int m, int planA, int planB) {
        if (!ring.has(m)) {
            return NO_MAN;
        }
        if (!arePlans(planA, planB)) {
            return NOT_SO;
        }
        int beaten = 0;
        for (int other = 0; other < ring.size; other++) {
            if (other != m) {
                pairUp(m, other);
                match.goThrough(planA, planB);
                beaten |= match.lead > 0 ? 1 << other : 0;
            }
        }
        return beaten;
    }

    public int meet(int s, int n) {
        int fault = plansFault(s);
        if (fault != FINE) {
            return fault;
        }
        if (n < 1 || n > 9) {
            return NOT_SO;
        }
        if (ring.days + n > MOST_COUNTED) {
            return FULL;
        }
        passDays(ring, sheetAt(s), n);
        return ring.leader();
    }

    public int run(int s, int n, int what) {
        int fault = plansFault(s);
        if (fault != FINE) {
            return fault;
        }
        boolean isManAsked = what >= 10 && ring.has(what - 10);
        if (n < 0 || n > 9 || what != 0 && !isManAsked) {
            return NOT_SO;
        }
        thought.becomesLike(ring);
        passDays(thought, sheetAt(s), n);
        return isManAsked ? thought.at(what - 10).wins : thought.leader();
    }

    // ---- told bouts

    public int judge(int s, int twoMen, int planA, int planB) {
        int fault = toldFault(s, twoMen, planA, planB);
        if (fault != FINE) {
            return fault;
        }
        match.pair(theOne(twoMen), theOther(twoMen), theLaw());
        match.goThrough(planA, planB);
        return match.firstOtherwise(sheetAt(s));
    }

    public int kinds(int s, int twoMen, int planA, int planB, int sort) {
        int fault = toldFault(s, twoMen, planA, planB);
        if (fault != FINE) {
            return fault;
        }
        if (sort < 0 || sort > 2) {
            return NOT_SO;
        }
        int what = sort == 0 ? KIND : sort == 1 ? MORE : KNEE;
        int fitting = 0;
        for (int v = 0; v < (what == KIND ? KINDS : DIGITS); v++) {
            fitting |= wouldBeSo(s, twoMen, planA, planB, what, v) ? 1 << v : 0;
        }
        return fitting;
    }

    public int acts(int s, int twoMen, int planA, int planB, int t) {
        int fault = toldFault(s, twoMen, planA, planB);
        if (fault != FINE) {
            return fault;
        }
        if (t < 0 || t >= SECONDS) {
            return NOT_SO;
        }
        match.pair(theOne(twoMen), theOther(twoMen), theLaw());
        int others = planA & ~(3 << 2 * t);
        int fitting = 0;
        for (int act = 0; act < ACTS; act++) {
            match.goThrough(others | act << 2 * t, planB);
            fitting |= match.firstOtherwise(sheetAt(s)) < 0 ? 1 << act : 0;
        }
        return fitting;
    }

    public int heavy(int s, int twoMen, int planA, int planB, int sortWhat) {
        int fault = toldFault(s, twoMen, planA, planB);
        if (fault != FINE) {
            return fault;
        }
        if (sortWhat != 0 && sortWhat != 1 && sortWhat != 10 && sortWhat != 11) {
            return NOT_SO;
        }
        int what = sortWhat < 10 ? WEIGHT : PACE;
        int least = NONE;
        int many = 0;
        for (int v = 0; v <= MOST_WEIGHT; v++) {
            if (wouldBeSo(s, twoMen, planA, planB, what, v)) {
                least = many == 0 ? v : least;
                many++;
            }
        }
        return sortWhat % 10 == 0 ? many : least;
    }

    public int laws(int s, int twoMen, int planA, int planB) {
        int fault = toldFault(s, twoMen, planA, planB);
        if (fault != FINE) {
            return fault;
        }
        int fitting = 0;
        for (int t = 0; t < textCount; t++) {
            match.pair(theOne(twoMen), theOther(twoMen), textAt(t));
            match.goThrough(planA, planB);
            fitting |= match.firstOtherwise(sheetAt(s)) < 0 ? 1 << t : 0;
        }
        return fitting;
    }

    public int whose(int s, int m, int planA, int planB) {
        int fault = cellsFault(s);
        if (fault != FINE) {
            return fault;
        }
        if (!ring.has(m)) {
            return NO_MAN;
        }
        if (!arePlans(planA, planB)) {
            return NOT_SO;
        }
        int fitting = 0;
        for (int other = 0; other < ring.size; other++) {
            if (other != m) {
                pairUp(m, other);
                match.goThrough(planA, planB);
                fitting |= match.firstOtherwise(sheetAt(s)) < 0 ? 1 << other : 0;
            }
        }
        return fitting;
    }

    public int film(int s, int twoMen, int planA, int planB) {
        if (!isSheet(s)) {
            return BAD;
        }
        if (!isPair(twoMen)) {
            return NO_MAN;
        }
        if (!arePlans(planA, planB)) {
            return NOT_SO;
        }
        match.pair(theOne(twoMen), theOther(twoMen), theLaw());
        match.goThrough(planA, planB);
        sheetAt(s).becomesRow(BYTES, match.seconds);
        for (int i = 0; i < match.seconds; i++) {
            sheetAt(s).write(i, match.cellBehind(i + 1));
        }
        return match.seconds;
    }

    // ---- plans by lots

    public int drawn(int seed, int a, int b, int what) {
        if (!areTwo(a, b)) {
            return NO_MAN;
        }
        if (!isSeed(seed) || what != 0 && what != 1) {
            return NOT_SO;
        }
        pairUp(a, b);
        goThroughByLots(seed);
        return what == 0 ? winnerOf(a, b) : match.seconds;
    }

    public long odds(int seed, int seeds, int a, int b, int part) {
        boolean areSeeds = isSeed(seed) && seeds >= 1 && seeds <= MOST_SEEDS;
        if (!areSeeds || !areTwo(a, b) || part != 0 && part != 1) {
            return NO;
        }
        pairUp(a, b);
        int wins = 0;
        for (int i = 0; i < seeds; i++) {
            goThroughByLots(seed + i);
            wins += match.lead > 0 ? 1 : 0;
        }
        return inLowestTerms(wins, seeds, part);
    }

    public int image() {
        kept.becomesLike(ring);
        isKept = true;
        return ring.size;
    }

    public int back() {
        if (!isKept) {
            return STATE;
        }
        ring.becomesLike(kept);
        return ring.size;
    }

    // ---- the host

    public int sheet(int s, int sort, int n) {
        if (!isSheet(s) || sort < NO_SORT || sort > INTS || sort != NO_SORT && n > ROW) {
            return BAD;
        }
        if (sort != NO_SORT && n < 0) {
            return BELOW;
        }
        sheetAt(s).becomesRow(sort, sort == NO_SORT ? 0 : n);
        return 1;
    }

    public int cell(int s, int i, int v) {
        int fault = sheetFault(s);
        if (fault != FINE) {
            return fault;
        }
        if (!sheetAt(s).hasFrom(i, 1)) {
            return OUTSIDE;
        }
        sheetAt(s).write(i, v);
        return 1;
    }

    public int copy(int s, int i, int other, int j, int n) {
        if (!isSheet(s) || !isSheet(other)) {
            return BAD;
        }
        Sheet from = sheetAt(s);
        Sheet to = sheetAt(other);
        if (from.sort == NO_SORT || to.sort == NO_SORT) {
            return MISSING;
        }
        if (from.sort != to.sort) {
            return UNLIKE;
        }
        if (!from.hasFrom(i, n) || !to.hasFrom(j, n)) {
            return OUTSIDE;
        }
        System.arraycopy(from.row, i, to.row, j, n);
        return n;
    }

    public int menBy(int s, int sort, int from, int n) {
        if (!isSheet(s) || sort < BYTES || sort > INTS || n < 0 || n > MEN) {
            return BAD;
        }
        int fault = sheetFault(s);
        if (fault != FINE) {
            return fault;
        }
        Sheet pairs = sheetAt(s);
        if (pairs.sort != sort) {
            return UNLIKE;
        }
        int came = 0;
        for (int k = 0; k < n; k++) {
            int i = from + 2 * k;
            if (!pairs.hasFrom(i, 2)) {
                return OUTSIDE;
            }
            came += man(pairs.at(i), pairs.at(i + 1)) >= 0 ? 1 : 0;
        }
        return came;
    }

    public int taken(int i, int kind) {
        if (kind < 0 || kind > KINDS) {
            return BAD;
        }
        if (i < 0 || i >= 2 * MEN) {
            return OUTSIDE;
        }
        if (!ring.has(i % MEN)) {
            return MISSING;
        }
        boolean isManThere = i < MEN;
        boolean isManTaken = kind < KINDS;
        if (isManThere != isManTaken || isManThere && !ring.at(i).isOf(kind)) {
            return UNLIKE;
        }
        return isManThere ? i : ring.at(i % MEN).wins;
    }

    // ---- what is asked for, looked at

    private static boolean isByte(int v) {
        return v >= 0 && v <= BYTE;
    }

    private static boolean isPlan(int plan) {
        return plan >= 0 && plan <= MOST_PLAN;
    }

    private static boolean arePlans(int planA, int planB) {
        return isPlan(planA) && isPlan(planB);
    }

    private static boolean isSeed(int seed) {
        return seed >= 0 && seed <= MOST_SEED;
    }

    private boolean areTwo(int a, int b) {
        return a != b && ring.has(a) && ring.has(b);
    }

    private boolean isPair(int twoMen) {
        return twoMen >= 0 && areTwo(twoMen / DIGITS, twoMen % DIGITS);
    }

    private boolean isSheet(int s) {
        return s >= 0 && s < SHEETS;
    }

    /** The refusal of a sheet that is none or missing, or FINE. */
    private int sheetFault(int s) {
        if (!isSheet(s)) {
            return BAD;
        }
        return sheetAt(s).sort == NO_SORT ? MISSING : FINE;
    }

    /** The refusal of a sheet that doesn't tell each wrestler's plan, or FINE. */
    private int plansFault(int s) {
        int fault = sheetFault(s);
        if (fault != FINE) {
            return fault;
        }
        Sheet plans = sheetAt(s);
        if (plans.size != ring.size) {
            return BAD;
        }
        for (int m = 0; m < plans.size; m++) {
            if (!isPlan(plans.at(m))) {
                return BAD;
            }
        }
        return FINE;
    }

    /** The refusal of a sheet that can't tell a bout's cells, or FINE. */
    private int cellsFault(int s) {
        int fault = sheetFault(s);
        if (fault != FINE) {
            return fault;
        }
        return sheetAt(s).size > SECONDS ? BAD : FINE;
    }

    private int toldFault(int s, int twoMen, int planA, int planB) {
        int fault = cellsFault(s);
        if (fault != FINE) {
            return fault;
        }
        if (!isPair(twoMen)) {
            return NO_MAN;
        }
        return arePlans(planA, planB) ? FINE : NOT_SO;
    }

    // ---- how it is done

    /** The sheet of that number, which the callers have looked at: the first never stands in for another. */
    private Sheet sheetAt(int s) {
        return sheets[s >= 0 && s < sheets.length ? s : 0];
    }

    private Text textAt(int t) {
        return texts[t >= 0 && t < texts.length ? t : 0];
    }

    private Text theLaw() {
        return textAt(ring.law);
    }

    private Wrestler theOne(int twoMen) {
        return ring.at(twoMen / DIGITS);
    }

    private Wrestler theOther(int twoMen) {
        return ring.at(twoMen % DIGITS);
    }

    private void pairUp(int one, int other) {
        match.pair(ring.at(one), ring.at(other), theLaw());
    }

    private int winnerOf(int one, int other) {
        if (match.lead == 0) {
            return NONE;
        }
        return match.lead > 0 ? one : other;
    }

    /** A bout truly, for those two. */
    private void clash(Wrestler one, Wrestler other, int planA, int planB) {
        match.pair(one, other, theLaw());
        match.goThrough(planA, planB);
        if (match.lead == 0) {
            return;
        }
        Wrestler winner = match.lead > 0 ? one : other;
        Wrestler loser = match.lead > 0 ? other : one;
        winner.wins = Math.min(MOST_COUNTED, winner.wins + 1);
        loser.losses = Math.min(MOST_COUNTED, loser.losses + 1);
        if (match.seconds < QUICK) {
            loser.knee = Math.min(DIGITS - 1, loser.knee + 1);
        }
    }

    private void passDays(Stable men, Sheet plans, int n) {
        for (int day = 0; day < n; day++) {
            for (int one = 0; one < men.size; one++) {
                for (int other = one + 1; other < men.size; other++) {
                    clash(men.at(one), men.at(other), plans.at(one), plans.at(other));
                }
            }
        }
        men.days += n;
    }

    private static int shortPlans(int n) {
        return 1 << 2 * n;
    }

    /** The plan of nine seconds that a short plan of n seconds is. */
    private static int wholePlan(int shortPlan, int n) {
        int plan = 0;
        for (int t = 0; t < SECONDS; t++) {
            plan |= actIn(shortPlan, Math.min(t, n - 1)) << 2 * t;
        }
        return plan;
    }

    private static int actIn(int plan, int t) {
        return plan >> 2 * t & 3;
    }

    /** Against how many short plans the one wins by that one, of the two who are paired. */
    private int winsAgainstAll(int shortPlan, int n) {
        int plan = wholePlan(shortPlan, n);
        int wins = 0;
        for (int other = 0; other < shortPlans(n); other++) {
            match.goThrough(plan, wholePlan(other, n));
            wins += match.lead > 0 ? 1 : 0;
        }
        return wins;
    }

    private void goThroughByLots(int seed) {
        long first = (seed + 1) * LOT_FACTOR % LOT_MODULUS;
        long next = first * LOT_FACTOR % LOT_MODULUS;
        match.goThrough((int) (first % PLANS), (int) (next % PLANS));
    }

    /** Whether the sheet tells the bout of one who is like the one, but for that; the one stays as he is. */
    private boolean wouldBeSo(int s, int twoMen, int planA, int planB, int what, int v) {
        guess.becomesLike(theOne(twoMen));
        guess.becomes(what, v);
        match.pair(guess, theOther(twoMen), theLaw());
        match.goThrough(planA, planB);
        return match.firstOtherwise(sheetAt(s)) < 0;
    }

    private static long inLowestTerms(int above, int below, int part) {
        int common = below;
        int rest = above;
        for (int i = 0; i < 64 && rest != 0; i++) {
            int next = common % rest;
            common = rest;
            rest = next;
        }
        if (common == 0) {
            return NO;
        }
        return part == 0 ? above / common : below / common;
    }

    private static int within(int v, int least, int most) {
        return Math.max(least, Math.min(most, v));
    }

    /** One wrestler; his kind says how what the text says becomes what he does. */
    private static final class Wrestler {
        int kind;
        int more;
        int weight;
        int pace;
        int knee;
        int wins;
        int losses;

        void comes(int ofKind, int ofMore, int ofWeight, int ofPace) {
            kind = ofKind;
            more = ofMore;
            weight = ofWeight;
            pace = ofPace;
            knee = 0;
            wins = 0;
            losses = 0;
        }

        void becomesLike(Wrestler other) {
            comes(other.kind, other.more, other.weight, other.pace);
            knee = other.knee;
            wins = other.wins;
            losses = other.losses;
        }

        int tells(int what) {
            switch (what) {
                case WEIGHT: return weight;
                case PACE: return pace;
                case KNEE: return knee;
                case WINS: return wins;
                case LOSSES: return losses;
                case KIND: return kind;
                default: return more;
            }
        }

        void becomes(int what, int v) {
            switch (what) {
                case WEIGHT: weight = v; break;
                case PACE: pace = v; break;
                case KNEE: knee = v; break;
                case KIND: kind = v; break;
                default: more = v; break;
            }
        }

        boolean isOf(int asked) {
            switch (asked) {
                case WRESTLER: return true;
                case PUSHER: return kind == PUSHER || kind == BULL;
                case HOLDER: return kind == HOLDER || kind == TREE;
                default: return kind == asked;
            }
        }

        int forces(int says, int act, int his) {
            int plain = act != ASIDE ? says : his == PUSH ? 2 * says : 0;
            switch (kind) {
                case PUSHER: return pushes(plain, act);
                case HOLDER:
                case TREE: return act == HOLD ? plain + 5 : plain / 2;
                case BULL: return his == ASIDE ? 0 : pushes(plain, act);
                case SLY: return act == his ? plain / 2 : plain + more;
                default: return plain;
            }
        }

        private int pushes(int plain, int act) {
            return act == PUSH ? plain + 3 * more : plain;
        }

        int standing(int says) {
            int longer = isOf(HOLDER) ? 1 : 0;
            return within(says + longer + (kind == TREE ? more : 0), 0, 9);
        }

        int starts(int says) {
            if (kind == TREE) {
                return Math.min(says, 0);
            }
            return kind == BULL ? says + 1 : says;
        }
    }

    /** The wrestlers, the days and the law that go together: as they are, in thought, in the image. */
    private static final class Stable {
        final Wrestler[] men = new Wrestler[MEN];
        int size = 0;
        int days = 0;
        int law = 0;

        Stable() {
            for (int m = 0; m < men.length; m++) {
                men[m] = new Wrestler();
            }
        }

        boolean has(int m) {
            return m >= 0 && m < size;
        }

        /** The wrestler at that place, also one that is still to come. */
        Wrestler at(int m) {
            return men[m >= 0 && m < men.length ? m : 0];
        }

        void becomesLike(Stable other) {
            for (int m = 0; m < MEN; m++) {
                at(m).becomesLike(other.at(m));
            }
            size = other.size;
            days = other.days;
            law = other.law;
        }

        int leader() {
            int leading = NONE;
            for (int m = 0; m < size; m++) {
                leading = leading < 0 || at(m).wins > at(leading).wins ? m : leading;
            }
            return leading;
        }
    }

    /** A text that has been read: the steps of its three parts, each part ahead of the next. */
    private static final class Text {
        /** A step that turns the sign; the other steps are numbers as they are, and tokens below 0. */
        static final int NEGATE = -1;

        final int[] steps = new int[TAPE];
        final int[] ends = new int[PARTS];
        int size = 0;

        void add(int step) {
            if (size < steps.length) {
                steps[size] = step;
                size++;
            }
        }

        void endPart(int part) {
            if (part >= 0 && part < ends.length) {
                ends[part] = size;
            }
        }

        int endOf(int part) {
            return part >= 0 && part < ends.length ? ends[part] : 0;
        }
    }

    /** What the tape holds, and how it is read as a text: each part into steps, what is reckoned with first. */
    private static final class Reader {
        static final int END = -1, WRONG = -2, ANOTHER = -1, NUMBER = 1;
        static final int NAME = 100, KEY = 106, OR = 109, AND = 110, NOT = 111;
        /** Names and keys, each behind the one whose token is 1 less. */
        static final String WORDS = "weight pace act his cell knee force stands ahead or and not ";
        static final String SIGNS = "();+-*<=";
        static final int MOST_DIGITS = 4, MOST_OPEN = 5;

        final int[] tape = new int[TAPE];
        int size = 0;
        private int place = 0;
        private int next = 0;
        private int token = END;
        private int number = 0;
        private Text into = new Text();

        void add(int b) {
            if (size < tape.length) {
                tape[size] = b;
                size++;
            }
        }

        void clear() {
            size = 0;
        }

        /** The place of the fault, or -1. */
        int readInto(Text read) {
            into = read;
            into.size = 0;
            next = 0;
            step();
            for (int part = 0; part < PARTS; part++) {
                if (!takes(KEY + part) || !any(0) || !takes(';')) {
                    return place;
                }
                into.endPart(part);
            }
            return token == END ? -1 : place;
        }

        private boolean takes(int wanted) {
            if (token != wanted) {
                return false;
            }
            step();
            return true;
        }

        private boolean any(int open) {
            if (!all(open)) {
                return false;
            }
            for (int i = 0; i < TAPE && token == OR; i++) {
                step();
                if (!all(open)) {
                    return false;
                }
                into.add(-OR);
            }
            return true;
        }

        private boolean all(int open) {
            if (!truth(open)) {
                return false;
            }
            for (int i = 0; i < TAPE && token == AND; i++) {
                step();
                if (!truth(open)) {
                    return false;
                }
                into.add(-AND);
            }
            return true;
        }

        private boolean truth(int open) {
            if (token == NOT) {
                if (!opens(open) || !truth(open + 1)) {
                    return false;
                }
                into.add(-NOT);
                return true;
            }
            if (!sum(open)) {
                return false;
            }
            if (token != '<' && token != '=') {
                return true;
            }
            int sign = token;
            step();
            if (!sum(open)) {
                return false;
            }
            into.add(-sign);
            return true;
        }

        private boolean sum(int open) {
            if (!term(open)) {
                return false;
            }
            for (int i = 0; i < TAPE && (token == '+' || token == '-'); i++) {
                int sign = token;
                step();
                if (!term(open)) {
                    return false;
                }
                into.add(-sign);
            }
            return true;
        }

        private boolean term(int open) {
            if (!one(open)) {
                return false;
            }
            for (int i = 0; i < TAPE && token == '*'; i++) {
                step();
                if (!one(open)) {
                    return false;
                }
                into.add(-'*');
            }
            return true;
        }

        private boolean one(int open) {
            if (token == NUMBER) {
                into.add(number);
                step();
                return true;
            }
            if (token >= NAME && token < KEY) {
                into.add(-token);
                step();
                return true;
            }
            if (token == '-') {
                if (!opens(open) || !one(open + 1)) {
                    return false;
                }
                into.add(Text.NEGATE);
                return true;
            }
            return token == '(' && opens(open) && any(open + 1) && takes(')');
        }

        /** Goes behind what opens, if no more than may are open; else that is where the fault is. */
        private boolean opens(int open) {
            if (open >= MOST_OPEN) {
                return false;
            }
            step();
            return true;
        }

        /** Goes on to the next token; place is where it begins. */
        private void step() {
            for (int i = next; i < size && isBlank(byteAt(i)); i++) {
                next = i + 1;
            }
            place = next;
            int first = byteAt(place);
            if (place >= size) {
                token = END;
            } else if (isLetter(first)) {
                stepOverWord();
            } else if (isDigit(first)) {
                stepOverNumber();
            } else {
                next = place + 1;
                token = SIGNS.indexOf((char) first) >= 0 ? first : WRONG;
            }
        }

        private void stepOverWord() {
            for (int i = place; i < size && isLetter(byteAt(i)); i++) {
                next = i + 1;
            }
            token = WRONG;
            int word = NAME;
            int alike = 0;
            for (int i = 0; i < WORDS.length(); i++) {
                char letter = WORDS.charAt(i);
                if (letter == ' ') {
                    token = alike == next - place ? word : token;
                    word++;
                    alike = 0;
                } else {
                    boolean isAlike = alike >= 0 && alike < next - place && byteAt(place + alike) == letter;
                    alike = isAlike ? alike + 1 : ANOTHER;
                }
            }
        }

        private void stepOverNumber() {
            number = 0;
            for (int i = place; i < size && isDigit(byteAt(i)); i++) {
                number = 10 * number + byteAt(i) - '0';
                next = i + 1;
            }
            token = next - place <= MOST_DIGITS ? NUMBER : WRONG;
        }

        private int byteAt(int i) {
            return i >= 0 && i < tape.length ? tape[i] : 0;
        }

        private static boolean isBlank(int b) {
            return b == ' ' || b == '\n';
        }

        private static boolean isLetter(int b) {
            return b >= 'a' && b <= 'z';
        }

        private static boolean isDigit(int b) {
            return b >= '0' && b <= '9';
        }
    }

    /** Reckons what a text says of a wrestler. */
    private static final class Scale {
        private static final int[] LEAST = {0, 0, -2};
        private static final int[] MOST = {999, 5, 2};

        private final int[] stack = new int[TAPE];

        int says(Text law, int part, Wrestler of, int act, int his, int cell) {
            if (part < 0 || part >= LEAST.length || part >= MOST.length) {
                return 0;
            }
            int top = 0;
            int end = Math.min(law.endOf(part), law.steps.length);
            for (int i = law.endOf(part - 1); i < end; i++) {
                int step = law.steps[i];
                if (step >= 0 || isName(step)) {
                    if (top < stack.length) {
                        stack[top] = step >= 0 ? step : named(-step, of, act, his, cell);
                        top++;
                    }
                } else if (step == Text.NEGATE || step == -Reader.NOT) {
                    if (top >= 1) {
                        stack[top - 1] = turned(step, stack[top - 1]);
                    }
                } else if (top >= 2) {
                    top--;
                    stack[top - 1] = joined(-step, stack[top - 1], stack[top]);
                }
            }
            return top < 1 ? 0 : within(stack[top - 1], LEAST[part], MOST[part]);
        }

        private static boolean isName(int step) {
            return -step >= Reader.NAME && -step < Reader.KEY;
        }

        private static int named(int name, Wrestler of, int act, int his, int cell) {
            switch (name - Reader.NAME) {
                case 0: return of.weight;
                case 1: return of.pace;
                case 2: return act;
                case 3: return his;
                case 4: return cell;
                default: return of.knee;
            }
        }

        private static int turned(int step, int v) {
            return step == Text.NEGATE ? -v : v == 0 ? 1 : 0;
        }

        private static int joined(int token, int left, int right) {
            switch (token) {
                case '+': return left + right;
                case '-': return left - right;
                case '*': return left * right;
                case '<': return left < right ? 1 : 0;
                case '=': return left == right ? 1 : 0;
                case Reader.AND: return left != 0 && right != 0 ? 1 : 0;
                default: return left != 0 || right != 0 ? 1 : 0;
            }
        }
    }

    /** One of the two in the ring: what is told of him ahead of the bout, and how strong he is in it. */
    private static final class Side {
        private static final int UNKNOWN = -1;

        private final Scale scale;
        /** By both acts and the cell, as far as it has been reckoned: many bouts of the same two ask for the same. */
        private final int[] strengths = new int[ACTS * ACTS * CELLS];
        private Wrestler who = new Wrestler();
        private Text law = new Text();
        private int standing = 0;
        private int stood = 0;

        Side(Scale scale) {
            this.scale = scale;
        }

        /** How far he starts ahead. */
        int enters(Wrestler one, Text byLaw) {
            who = one;
            law = byLaw;
            Arrays.fill(strengths, UNKNOWN);
            standing = who.standing(scale.says(law, STANDS, who, 0, 0, 0));
            return who.starts(scale.says(law, AHEAD, who, 0, 0, MIDDLE));
        }

        void begins() {
            stood = 0;
        }

        int strength(int act, int his, int cell) {
            int i = (act * ACTS + his) * CELLS + cell;
            if (i < 0 || i >= strengths.length) {
                return 0;
            }
            if (strengths[i] == UNKNOWN) {
                int says = scale.says(law, FORCE, who, act, his, cell);
                strengths[i] = Math.max(0, who.forces(says, act, his) - who.knee);
            }
            return strengths[i];
        }

        boolean stands() {
            if (stood >= standing) {
                return false;
            }
            stood++;
            return true;
        }
    }

    /** A bout of two: they are paired once, and go through it by as many plans as one likes. */
    private static final class Match {
        private final Side west;
        private final Side east;
        private final int[] cells = new int[SECONDS + 1];
        private int start = MIDDLE;
        int seconds = 0;
        /** Above 0 the one wins, below 0 the other one. */
        int lead = 0;

        Match(Scale scale) {
            west = new Side(scale);
            east = new Side(scale);
        }

        void pair(Wrestler one, Wrestler other, Text law) {
            int further = west.enters(one, law) - east.enters(other, law);
            start = within(MIDDLE + further, WEST_STRAW + 1, EAST_STRAW - 1);
        }

        void goThrough(int planA, int planB) {
            west.begins();
            east.begins();
            int cell = start;
            cells[0] = start;
            for (int t = 0; t < SECONDS; t++) {
                if (cell > WEST_STRAW && cell < EAST_STRAW) {
                    int act = actIn(planA, t);
                    int his = actIn(planB, t);
                    int ofWest = west.strength(act, his, cell);
                    int ofEast = east.strength(his, act, EAST_STRAW - cell);
                    cell = cellAtLast(cell + stepsFor(ofWest - ofEast));
                    seconds = t + 1;
                }
                cells[t + 1] = cell;
            }
            lead = cell - MIDDLE;
        }

        private static int stepsFor(int stronger) {
            int steps = Math.abs(stronger) > FAR ? 2 : 1;
            return stronger == 0 ? 0 : stronger < 0 ? -steps : steps;
        }

        /** Where they are when that cell has been reached, which may be a straw or behind it. */
        private int cellAtLast(int reached) {
            if (reached >= EAST_STRAW) {
                return east.stands() ? EAST_STRAW - 1 : EAST_STRAW;
            }
            if (reached <= WEST_STRAW) {
                return west.stands() ? WEST_STRAW + 1 : WEST_STRAW;
            }
            return reached;
        }

        int cellBehind(int second) {
            return cells[within(second, 0, cells.length - 1)];
        }

        int firstOtherwise(Sheet told) {
            for (int i = 0; i < told.size; i++) {
                if (told.at(i) != cellBehind(i + 1)) {
                    return i;
                }
            }
            return NONE;
        }
    }

    /** A row of numbers of a sort, or a missing one. */
    private static final class Sheet {
        final int[] row = new int[ROW];
        int sort = NO_SORT;
        int size = 0;

        void becomesRow(int ofSort, int n) {
            sort = ofSort;
            size = within(n, 0, row.length);
            Arrays.fill(row, 0);
        }

        boolean hasFrom(int i, int n) {
            return i >= 0 && n >= 0 && i <= size && n <= size - i;
        }

        int at(int i) {
            return i >= 0 && i < row.length ? row[i] : 0;
        }

        void write(int i, int v) {
            if (i >= 0 && i < row.length) {
                row[i] = sort == BYTES ? (byte) v : sort == SHORTS ? (short) v : v;
            }
        }
    }
}
