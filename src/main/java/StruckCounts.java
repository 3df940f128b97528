/**
 * A suit on paper, told as a text: facts, what can't be, counts with their elements and pleas, what
 * each count says, what acts make of all that, and what is left of it for trial.
 *
 * All rows are made with the object and used again by every call.
 */
public final class StruckCounts {
    public static final int NONE = -1;

    private static final int MOST_SIGNS = 480;
    private static final int MOST_FACTS = 8;
    private static final int MOST_TOLD = 5;
    private static final int MOST_COUNTS = 8;
    private static final int MOST_NEVERS = 6;
    private static final int MOST_PLEAS = 6;
    private static final int MOST_NEEDS = 4;
    private static final int MOST_LISTED = 6;
    private static final int MOST_OPEN = 5;
    private static final int MOST_ACTS = 16;
    private static final int MOST_KEPT = 2;
    private static final int MOST_GROWTH = 400;
    private static final int USUAL_ODDS = 5;
    private static final int USUAL_LIMIT = 300;
    private static final int LAST_DAY = 9999;
    private static final int SETS = 256;
    private static final int PARTS = 4;
    private static final int GREATEST = 2147483647;

    private static final int END = 0;
    private static final int NO_TOKEN = 1;
    private static final int NAME = 2;
    private static final int NUMBER = 3;
    private static final int WORD_FACT = 256;
    private static final int WORD_NEVER = 257;
    private static final int WORD_COUNT = 258;
    private static final int WORD_WORTH = 259;
    private static final int WORD_AROSE = 260;
    private static final int WORD_NEEDS = 261;
    private static final int WORD_PLEA = 262;
    private static final int WORD_SAYS = 263;
    private static final int WORD_SAME = 264;
    private static final int WORD_LIMIT = 265;
    private static final int WORD_OF = 266;
    private static final int LONGEST_WORD = 6;
    private static final int LONGEST_NUMBER = 3;
    private static final int RESERVED = 11;
    private static final String MARKS = "!&|(),;";
    /** In the order of WORD_FACT and the ones behind it, each filled up to the longest word. */
    private static final String RESERVED_WORDS =
            "fact  never count worth arose needs plea  says  same  limit of    ";

    /** Numbers below NOT are the facts themselves. */
    private static final int NOT = 8;
    private static final int AND = 9;
    private static final int OR = 10;
    private static final int SEVERAL = 16;

    private static final int ADMITTED = 1;
    private static final int DENIED = 2;
    private static final int NOT_KNOWN = 3;
    private static final int FOUND = 4;

    private static final int ALL_WON = 1;
    private static final int ALL_LOST = 2;
    private static final int MIXED = 3;

    private final Text text = new Text();
    private final Tokens tokens = new Tokens();
    private final Seer seer = new Seer();
    private Law law = new Law();
    private Law draft = new Law();
    private State state = new State();
    private State filing = new State();
    private final Parser parser = new Parser(tokens, seer, draft, filing);
    private final History history = new History();
    /** The worlds that agree with what is known, as remember() found them for this call. */
    private final Worlds left = new Worlds();
    private final Worlds alleged = new Worlds();
    private final Worlds spare = new Worlds();
    private final Tree tree = new Tree();
    private final Picks picks = new Picks();
    private final Tally tally = new Tally();
    private final int[] backs = new int[MOST_COUNTS];
    private long askedUpper;
    /** 0 as long as nothing has been asked. */
    private long askedLower;

    public StruckCounts() {
        law.clear();
        law.finish(seer);
    }

    // ---- texts

    public int sign(int v) {
        return text.take(v) ? text.size : NONE;
    }

    public boolean end(int n) {
        return text.cut(n);
    }

    public int suit() {
        tokens.split(text);
        text.size = 0;
        if (!parser.readSuit(draft, filing)) {
            return NONE;
        }
        draft.finish(seer);
        Law told = draft;
        draft = law;
        law = told;
        State fresh = filing;
        filing = state;
        state = fresh;
        history.forget();
        askedLower = 0;
        return law.lines;
    }

    public int fault(int what) {
        switch (what) {
            case 0:
                return parser.fault;
            case 1:
                return parser.fault == 0 ? NONE : parser.place;
            default:
                return NONE;
        }
    }

    // ---- what there is

    public int fact(int f, int what) {
        if (!isFact(f)) {
            return NONE;
        }
        switch (what) {
            case 0:
                return at(law.odds, f);
            case 1:
                return state.howIs(f);
            case 2:
                return !has(state.known(), f) ? 2 : has(state.so, f) ? 1 : 0;
            case 3:
                return state.sayers(f);
            default:
                return NONE;
        }
    }

    public int of(int k, int what) {
        if (!isCount(k)) {
            return NONE;
        }
        switch (what) {
            case 0:
                return at(state.worth, k);
            case 1:
                return at(state.arose, k);
            case 2:
                return at(state.filed, k);
            case 3:
                return age(k) - at(state.arose, k);
            case 4:
                return age(k);
            case 5:
                return at(law.needs, kind(k));
            case 6:
                return law.pleasOf(kind(k));
            case 7:
                return at(state.said, k);
            case 8:
                return at(state.saidSo, k);
            case 9:
                remember();
                return failing(k);
            case 10:
                return at(law.first, kind(k));
            default:
                return NONE;
        }
    }

    public int element(int k, int i, int what) {
        if (!isCount(k) || i < 0 || i >= at(law.needs, kind(k))) {
            return NONE;
        }
        return shown(k, needSlot(kind(k), i), what);
    }

    public int bar(int k, int i, int what) {
        if (!isCount(k)) {
            return NONE;
        }
        int slot = law.pleaSlot(kind(k), i);
        return slot < 0 ? NONE : shown(k, slot, what);
    }

    // ---- acts

    public int answer(int f, int how) {
        if (!isFact(f) || how < 0 || how > 3) {
            return NONE;
        }
        if (state.closed) {
            return -2;
        }
        int will = how < 2 ? ADMITTED : how;
        int is = state.howIs(f);
        if (is == ADMITTED || is == will) {
            return -3;
        }
        if (will == ADMITTED && !leaves(f, how == 1)) {
            return -4;
        }
        history.note(state);
        state.become(f, will, how == 1);
        return state.answered();
    }

    public int withdraw(int f) {
        if (!isFact(f)) {
            return NONE;
        }
        if (state.closed) {
            return -2;
        }
        if (state.howIs(f) != ADMITTED) {
            return -3;
        }
        history.note(state);
        state.become(f, 0, false);
        return state.answered();
    }

    public int close() {
        if (state.closed) {
            return -2;
        }
        history.note(state);
        int silent = 0;
        for (int f = 0; f < law.facts && f < MOST_FACTS; f++) {
            if (state.howIs(f) == 0) {
                silent += bySilence(f);
            }
        }
        state.closed = true;
        return silent;
    }

    public int find(int f, boolean is) {
        if (!isFact(f)) {
            return NONE;
        }
        if (!state.closed) {
            return -2;
        }
        if (has(state.known(), f)) {
            return -3;
        }
        if (!leaves(f, is)) {
            return -4;
        }
        history.note(state);
        state.become(f, FOUND, is);
        return Integer.bitCount(unknown());
    }

    public int say(int k, int f, int how) {
        if (!isCount(k) || !isFact(f) || how < 0 || how > 2) {
            return NONE;
        }
        if (has(state.struck, k)) {
            return -2;
        }
        boolean says = has(at(state.said, k), f);
        boolean saysSo = has(at(state.saidSo, k), f);
        if (how == 2 ? !says : says && saysSo == (how == 1)) {
            return -3;
        }
        if (how < 2 && has(state.known(), f) && has(state.so, f) != (how == 1)) {
            return -4;
        }
        history.note(state);
        state.tell(k, f, how);
        return Integer.bitCount(at(state.said, k));
    }

    public int add(int like, int worth, int arose) {
        if (!isCount(like) || worth < 0 || worth > 999 || arose < 0 || arose > 999) {
            return NONE;
        }
        if (state.counts >= MOST_COUNTS) {
            return -2;
        }
        history.note(state);
        return state.file(kind(like), worth, arose);
    }

    public int strike(int k) {
        if (!isCount(k)) {
            return NONE;
        }
        if (has(state.struck, k)) {
            return -2;
        }
        history.note(state);
        state.struck |= 1 << k;
        return state.counts - Integer.bitCount(state.struck);
    }

    public int days(int n) {
        if (n < 1 || n > 999) {
            return NONE;
        }
        if (state.day + n > LAST_DAY) {
            return -2;
        }
        history.note(state);
        state.day += n;
        return state.day;
    }

    public int undo() {
        return history.takeBack(state) ? history.done : NONE;
    }

    public boolean keep(int i) {
        return history.store(i, state);
    }

    public boolean again(int i) {
        return history.restore(i, state);
    }

    // ---- on paper

    public int worlds(int what) {
        switch (what) {
            case 0:
                return law.possible.size();
            case 1:
                remember();
                return left.size();
            default:
                return NONE;
        }
    }

    public int clash(int a, int b) {
        if (!isCount(a) || !isCount(b)) {
            return NONE;
        }
        allege(a);
        alleged.agree(at(state.said, b), at(state.saidSo, b));
        return alleged.isEmpty() ? 1 : 0;
    }

    public int implied(int a, int b) {
        if (!isCount(a) || !isCount(b)) {
            return NONE;
        }
        remember();
        left.and(law.wonBy(kind(a)));
        return left.within(law.wonBy(kind(b))) ? 1 : 0;
    }

    public int lacks(int k, int what) {
        if (!isCount(k) || what < 0 || what > 2) {
            return NONE;
        }
        if (!findLack(k)) {
            return -2;
        }
        return what == 0 ? Integer.bitCount(picks.facts) : what == 1 ? picks.facts : picks.so;
    }

    public int grown(int k, int n) {
        if (!isCount(k) || n < 0 || n > MOST_GROWTH) {
            return NONE;
        }
        long worth = at(state.worth, k);
        for (int i = 0; i < n && worth <= GREATEST; i++) {
            worth += worth / 10;
        }
        return worth > GREATEST ? -2 : (int) worth;
    }

    // ---- what is left for trial

    public int issues(int k) {
        if (!isCount(k)) {
            return NONE;
        }
        remember();
        Worlds won = law.wonBy(kind(k));
        int matter = 0;
        for (int world = 0; world < SETS; world++) {
            if (left.holds(world) && won.holds(world)) {
                matter |= turningFacts(world, won);
            }
        }
        return matter;
    }

    public int judged(int k) {
        if (!isCount(k)) {
            return NONE;
        }
        remember();
        return left.howIn(law.wonBy(kind(k)));
    }

    public int tries(int k, int what) {
        if (!isCount(k) || what < 0 || what > 1) {
            return NONE;
        }
        growTrial(k);
        tree.countTrials();
        if (what == 0) {
            return tree.value();
        }
        return tree.value() == 0 ? -2 : tree.firstTrial();
    }

    public int chance(int k, int what) {
        if (!isCount(k) || what < 0 || what > 1) {
            return NONE;
        }
        remember();
        long all = law.weigh(left);
        left.and(law.wonBy(kind(k)));
        return (int) inLowestTerms(law.weigh(left), all, what);
    }

    public int award(int what) {
        if (what < 0 || what > 2) {
            return NONE;
        }
        survey();
        int least = GREATEST;
        int greatest = NONE;
        int world = 0;
        for (int i = 0; i < tally.size; i++) {
            int sum = awardOf(at(tally.sets, i));
            least = Math.min(least, sum);
            if (sum > greatest) {
                greatest = sum;
                world = at(tally.firsts, i);
            }
        }
        return what == 0 ? least : what == 1 ? greatest : world;
    }

    public long meant(int what) {
        if (what < 0 || what > 1) {
            return NONE;
        }
        survey();
        long sum = 0;
        for (int i = 0; i < tally.size; i++) {
            sum += awardOf(at(tally.sets, i)) * longAt(tally.weights, i);
        }
        return inLowestTerms(sum, law.weigh(left), what);
    }

    public int outcomes() {
        survey();
        return tally.size;
    }

    public int outcome(int i, int what) {
        survey();
        if (i < 0 || i >= tally.size) {
            return NONE;
        }
        switch (what) {
            case 0:
                return at(tally.sets, i);
            case 1:
                return at(tally.times, i);
            case 2:
                return at(tally.firsts, i);
            default:
                return NONE;
        }
    }

    public int proofs(int k, boolean won) {
        if (!isCount(k)) {
            return NONE;
        }
        growTrial(k);
        return seekProofs(won, GREATEST);
    }

    public int proof(int k, boolean won, int i, int what) {
        if (!isCount(k) || i < 0 || what < 0 || what > 1) {
            return NONE;
        }
        growTrial(k);
        if (seekProofs(won, i + 1) != i + 1) {
            return NONE;
        }
        return what == 0 ? picks.facts : picks.so;
    }

    public int duel(int k, int first) {
        if (!isCount(k) || first < 0 || first > 1) {
            return NONE;
        }
        growTrial(k);
        tree.playOut(first);
        return tree.value();
    }

    public int turn(int k, int first, int what) {
        if (!isCount(k) || first < 0 || first > 1 || what < 0 || what > 1) {
            return NONE;
        }
        growTrial(k);
        tree.playOut(first);
        int move = tree.winningTurn(first);
        return move < 0 ? -2 : what == 0 ? move >> 1 : move & 1;
    }

    public int together(int set) {
        if (set < 0 || set >> state.counts != 0) {
            return NONE;
        }
        remember();
        for (int k = 0; k < state.counts; k++) {
            if (has(set, k)) {
                left.and(law.wonBy(kind(k)));
            }
        }
        return left.isEmpty() ? 0 : 1;
    }

    public int elect(int what) {
        if (what < 0 || what > 1) {
            return NONE;
        }
        survey();
        int best = 0;
        for (int i = 0; i < tally.size; i++) {
            int set = at(tally.sets, i);
            int more = Integer.bitCount(set) - Integer.bitCount(best);
            if (more > 0 || more == 0 && set < best) {
                best = set;
            }
        }
        return what == 0 ? Integer.bitCount(best) : best;
    }

    public int ask() {
        tokens.split(text);
        text.size = 0;
        int from = law.size;
        boolean right = parser.readQuestion(law);
        int to = law.size;
        law.size = from;
        if (!right) {
            return NONE;
        }
        remember();
        seer.tabulate(law.code, from, to, spare);
        int answer = left.howIn(spare);
        long all = law.weigh(left);
        left.and(spare);
        long part = law.weigh(left);
        askedUpper = inLowestTerms(part, all, 0);
        askedLower = inLowestTerms(part, all, 1);
        return answer;
    }

    public int asked(int what) {
        if (what < 0 || what > 1 || askedLower == 0) {
            return NONE;
        }
        return (int) (what == 0 ? askedUpper : askedLower);
    }

    public int count(int what) {
        switch (what) {
            case 0:
                return law.lines;
            case 1:
                return law.facts;
            case 2:
                return state.counts;
            case 3:
                remember();
                return Integer.bitCount(standing());
            case 4:
                return state.day;
            case 5:
                return state.closed ? 1 : 0;
            case 6:
                return Integer.bitCount(state.known());
            case 7:
                return history.done;
            case 8:
                return text.size;
            case 9:
                return law.limit;
            default:
                return NONE;
        }
    }

    // ---- what several calls share

    private boolean isFact(int f) {
        return f >= 0 && f < law.facts;
    }

    private boolean isCount(int k) {
        return k >= 0 && k < state.counts;
    }

    /** The told count whose elements and pleas a count has. */
    private int kind(int k) {
        return at(state.kinds, k);
    }

    private int unknown() {
        return (1 << law.facts) - 1 & ~state.known();
    }

    private void remember() {
        left.copy(law.possible);
        left.agree(state.known(), state.so);
    }

    private void allege(int k) {
        alleged.copy(law.possible);
        alleged.agree(at(state.said, k), at(state.saidSo, k));
    }

    /** Whether a world would agree with what is known and with this fact, too. */
    private boolean leaves(int f, boolean so) {
        remember();
        left.agree(1 << f, so ? 1 << f : 0);
        return !left.isEmpty();
    }

    /** What becomes of an open fact as the pleadings close: 1 if it is admitted, else 0. */
    private int bySilence(int f) {
        int k = state.firstSayer(f);
        if (k < 0) {
            return 0;
        }
        boolean so = has(at(state.saidSo, k), f);
        boolean admitted = leaves(f, so);
        state.become(f, admitted ? ADMITTED : NOT_KNOWN, so);
        return admitted ? 1 : 0;
    }

    /** How an element or a plea looks; what an element is told by, a plea is, too. */
    private int shown(int k, int slot, int what) {
        switch (what) {
            case 0:
                return seer.glance(law, slot, at(state.said, k), at(state.saidSo, k));
            case 1:
                allege(k);
                return alleged.within(law.table(slot)) ? 1 : 0;
            case 2:
                remember();
                return left.howIn(law.table(slot));
            default:
                return NONE;
        }
    }

    private int age(int k) {
        workOutBacks(k);
        return at(state.arose, k) + leastBack(k, at(state.said, k));
    }

    /** Counts are filed in the order of their numbers, so each asks only for ones ahead of it. */
    private void workOutBacks(int k) {
        for (int j = 0; j < k && j < MOST_COUNTS; j++) {
            put(backs, j, leastBack(j, at(state.said, j)));
        }
    }

    /** The BACK of a count, if these were the facts that it says; workOutBacks() went ahead. */
    private int leastBack(int k, int said) {
        int filed = at(state.filed, k);
        int least = filed;
        for (int j = 0; j < k && j < MOST_COUNTS && said != 0; j++) {
            int shared = Integer.bitCount(at(state.said, j) & said);
            if (at(state.filed, j) < filed && 2 * shared >= Integer.bitCount(said)) {
                least = Math.min(least, at(backs, j));
            }
        }
        return least;
    }

    /** remember() goes ahead. */
    private int failing(int k) {
        if (has(state.struck, k)) {
            return 1;
        }
        allege(k);
        if (alleged.isEmpty()) {
            return 2;
        }
        int kind = kind(k);
        if (!law.needsSure(kind, alleged)) {
            return 3;
        }
        if (!law.needsMet(kind, left)) {
            return 4;
        }
        if (law.barred(kind, alleged) || law.barred(kind, left)) {
            return 5;
        }
        return age(k) > law.limit ? 6 : 0;
    }

    /** remember() goes ahead. */
    private int standing() {
        int set = 0;
        for (int k = 0; k < state.counts; k++) {
            if (failing(k) == 0) {
                set |= 1 << k;
            }
        }
        return set;
    }

    /** Leaves the fewest literals that would do in the picks; false, if none would. */
    private boolean findLack(int k) {
        remember();
        int kind = kind(k);
        if (has(state.struck, k) || !law.needsMet(kind, left) || law.barred(kind, left)) {
            return false;
        }
        for (int world = 0; world < SETS; world++) {
            tree.setLeaf(world, law.flawsAt(kind, world));
        }
        int said = at(state.said, k);
        tree.grow((1 << law.facts) - 1 & ~said, at(state.saidSo, k));
        workOutBacks(k);
        picks.start(tree.free);
        for (int i = 0; i < Tree.NODES && picks.more(); i++) {
            boolean against = (picks.facts & state.known() & (picks.so ^ state.so)) != 0;
            if (!against && law.sound(kind, tree.markOf(picks.facts, picks.so))
                    && at(state.arose, k) + leastBack(k, said | picks.facts) <= law.limit) {
                return true;
            }
        }
        return false;
    }

    /** Facts whose other way makes of this world, in which a count is won, one in which it is lost. */
    private int turningFacts(int world, Worlds won) {
        int facts = 0;
        for (int f = 0; f < law.facts && f < MOST_FACTS; f++) {
            int other = world ^ 1 << f;
            if (left.holds(other) && !won.holds(other)) {
                facts |= 1 << f;
            }
        }
        return facts;
    }

    /** The tree of what can still be learned, a leaf a world: won, lost, or none. */
    private void growTrial(int k) {
        remember();
        Worlds won = law.wonBy(kind(k));
        for (int world = 0; world < SETS; world++) {
            tree.setLeaf(world, !left.holds(world) ? 0 : won.holds(world) ? ALL_WON : ALL_LOST);
        }
        tree.grow(unknown(), state.so & state.known());
    }

    /** Counts proofs up to so many; the last one counted is left in the picks. */
    private int seekProofs(boolean won, int most) {
        int want = won ? ALL_WON : ALL_LOST;
        int found = 0;
        picks.start(tree.free);
        for (int i = 0; i < Tree.NODES && found != most && picks.more(); i++) {
            if (tree.isProof(picks.facts, picks.so, want)) {
                found++;
            }
        }
        return found;
    }

    /** Sorts the worlds that are left by the standing counts that are won in them. */
    private void survey() {
        remember();
        int standing = standing();
        tally.clear();
        for (int world = 0; world < SETS; world++) {
            if (left.holds(world)) {
                tally.enter(wonIn(world, standing), world, at(law.weights, world));
            }
        }
    }

    private int wonIn(int world, int among) {
        int set = 0;
        for (int k = 0; k < state.counts; k++) {
            if (has(among, k) && law.wonBy(kind(k)).holds(world)) {
                set |= 1 << k;
            }
        }
        return set;
    }

    /** One injury is paid once: by the greatest worth of its counts in the set. */
    private int awardOf(int set) {
        int sum = 0;
        for (int injury = 0; injury < law.told; injury++) {
            int greatest = 0;
            for (int k = 0; k < state.counts; k++) {
                if (has(set, k) && at(law.first, kind(k)) == injury) {
                    greatest = Math.max(greatest, at(state.worth, k));
                }
            }
            sum += greatest;
        }
        return sum;
    }

    /** The upper number (what 0) or the lower one of a part by the whole. */
    private static long inLowestTerms(long part, long whole, int what) {
        long common = whole;
        long rest = part;
        for (int i = 0; i < 200 && rest != 0; i++) {
            long next = common % rest;
            common = rest;
            rest = next;
        }
        if (common == 0) {
            return what == 0 ? 0 : 1;
        }
        return (what == 0 ? part : whole) / common;
    }

    private static int needSlot(int kind, int i) {
        return MOST_NEEDS * kind + i;
    }

    private static boolean has(int set, int i) {
        return (set >> i & 1) != 0;
    }

    private static int at(int[] row, int i) {
        return i >= 0 && i < row.length ? row[i] : 0;
    }

    private static void put(int[] row, int i, int value) {
        if (i >= 0 && i < row.length) {
            row[i] = value;
        }
    }

    private static long longAt(long[] row, int i) {
        return i >= 0 && i < row.length ? row[i] : 0;
    }

    private static void putLong(long[] row, int i, long value) {
        if (i >= 0 && i < row.length) {
            row[i] = value;
        }
    }

    private static void wipe(int[] row) {
        for (int i = 0; i < row.length; i++) {
            row[i] = 0;
        }
    }

    private static void copyRow(int[] from, int[] into) {
        for (int i = 0; i < from.length && i < into.length; i++) {
            into[i] = from[i];
        }
    }

    /** Signs as they came. */
    private static final class Text {
        private final int[] signs = new int[MOST_SIGNS];
        private int size;

        private boolean take(int v) {
            if (size + 4 > MOST_SIGNS) {
                return false;
            }
            for (int i = 0; i < 4; i++) {
                put(signs, size + i, v >>> 24 - 8 * i & 255);
            }
            size += 4;
            return true;
        }

        private boolean cut(int n) {
            if (n < 0 || n > size) {
                return false;
            }
            size = n;
            return true;
        }

        private int read(int place) {
            return place < size ? at(signs, place) : 0;
        }
    }

    /** A text in tokens; behind the last one stands END, at the place where the text ends. */
    private static final class Tokens {
        private final int[] kinds = new int[MOST_SIGNS + 1];
        private final int[] places = new int[MOST_SIGNS + 1];
        /** Of a number what it is, of a name its letters. */
        private final int[] values = new int[MOST_SIGNS + 1];
        private final int[] reserved = new int[RESERVED];
        private int size;

        private Tokens() {
            for (int word = 0; word < RESERVED; word++) {
                put(reserved, word, reservedLetters(word));
            }
        }

        private static int reservedLetters(int word) {
            int letters = 0;
            for (int i = 0; i < LONGEST_WORD; i++) {
                int place = word * LONGEST_WORD + i;
                char sign = place < RESERVED_WORDS.length() ? RESERVED_WORDS.charAt(place) : ' ';
                if (sign != ' ') {
                    letters = withLetter(letters, sign);
                }
            }
            return letters;
        }

        /** Five bits a letter, so six letters are one number. */
        private static int withLetter(int letters, int sign) {
            return letters << 5 | sign - 'a' + 1;
        }

        private void split(Text text) {
            size = 0;
            int place = 0;
            for (int i = 0; i < MOST_SIGNS && place < text.size; i++) {
                int sign = text.read(place);
                if (sign == 10 || sign == 32) {
                    place++;
                } else {
                    place = cutOne(text, place, sign);
                }
            }
            note(END, text.size, 0);
        }

        /** Answers where the token ends that begins here. */
        private int cutOne(Text text, int place, int sign) {
            if (sign >= 'a' && sign <= 'z') {
                int end = runEnd(text, place, 'a', 'z');
                noteWord(text, place, end);
                return end;
            }
            if (sign >= '0' && sign <= '9') {
                int end = runEnd(text, place, '0', '9');
                noteNumber(text, place, end);
                return end;
            }
            boolean mark = MARKS.indexOf((char) sign) >= 0;
            note(mark ? sign : NO_TOKEN, place, 0);
            return place + 1;
        }

        private static int runEnd(Text text, int place, int least, int most) {
            int end = place;
            for (int i = place; i < text.size; i++) {
                int sign = text.read(i);
                if (sign < least || sign > most) {
                    break;
                }
                end = i + 1;
            }
            return end;
        }

        private void noteWord(Text text, int place, int end) {
            if (end - place > LONGEST_WORD) {
                note(NO_TOKEN, place, 0);
                return;
            }
            int letters = 0;
            for (int i = place; i < end; i++) {
                letters = withLetter(letters, text.read(i));
            }
            int kind = NAME;
            for (int word = 0; word < RESERVED; word++) {
                if (at(reserved, word) == letters) {
                    kind = WORD_FACT + word;
                }
            }
            note(kind, place, letters);
        }

        private void noteNumber(Text text, int place, int end) {
            if (end - place > LONGEST_NUMBER) {
                note(NO_TOKEN, place, 0);
                return;
            }
            int value = 0;
            for (int i = place; i < end; i++) {
                value = value * 10 + text.read(i) - '0';
            }
            note(NUMBER, place, value);
        }

        private void note(int kind, int place, int value) {
            put(kinds, size, kind);
            put(places, size, place);
            put(values, size, value);
            size++;
        }
    }

    /** Reads tokens into a law and a state; each step answers false at the first fault. */
    private static final class Parser {
        private final Tokens tokens;
        private final Seer seer;
        private final Worlds spare = new Worlds();
        private Law law;
        private State start;
        private int next;
        /** The number, name, fact or count read last. */
        private int got;
        private int fault;
        private int place;

        private Parser(Tokens tokens, Seer seer, Law law, State start) {
            this.tokens = tokens;
            this.seer = seer;
            this.law = law;
            this.start = start;
        }

        private boolean readSuit(Law into, State filing) {
            begin(into);
            start = filing;
            law.clear();
            start.clear();
            for (int i = 0; i < MOST_SIGNS && nextKind() != END; i++) {
                if (!readLine()) {
                    return false;
                }
                law.lines++;
            }
            return true;
        }

        /** The code is put behind that of the suit. */
        private boolean readQuestion(Law about) {
            begin(about);
            return readEither(0) && expect(END);
        }

        private void begin(Law into) {
            law = into;
            next = 0;
            fault = 0;
        }

        private boolean readLine() {
            switch (nextKind()) {
                case WORD_FACT:
                    return readFact();
                case WORD_NEVER:
                    return readNever();
                case WORD_COUNT:
                    return readCount();
                case WORD_PLEA:
                    return readPlea();
                case WORD_SAYS:
                    return readSays();
                case WORD_SAME:
                    return readSame();
                case WORD_LIMIT:
                    return readLimit();
                default:
                    return fail(1);
            }
        }

        private boolean readFact() {
            if (law.facts >= MOST_FACTS) {
                return fail(4);
            }
            next++;
            if (!newName()) {
                return false;
            }
            int name = got;
            int odds = USUAL_ODDS;
            if (nextKind() == NUMBER) {
                if (!number(1, 9)) {
                    return false;
                }
                odds = got;
            }
            put(law.names, law.facts, name);
            put(law.odds, law.facts, odds);
            law.facts++;
            return expect(';');
        }

        private boolean readNever() {
            if (law.nevers >= MOST_NEVERS) {
                return fail(4);
            }
            int word = next;
            int from = law.size;
            next++;
            if (!readEither(0) || !expect(';')) {
                return false;
            }
            seer.tabulate(law.code, from, law.size, spare);
            law.possible.minus(spare);
            law.nevers++;
            if (law.possible.isEmpty()) {
                next = word;
                return fail(5);
            }
            return true;
        }

        private boolean readCount() {
            if (law.told >= MOST_TOLD) {
                return fail(4);
            }
            next++;
            if (!newName()) {
                return false;
            }
            int name = got;
            if (!expect(WORD_WORTH) || !number(0, 999)) {
                return false;
            }
            int worth = got;
            if (!expect(WORD_AROSE) || !number(0, 999)) {
                return false;
            }
            int arose = got;
            int needs = 0;
            for (int i = 0; i < MOST_NEEDS && (i == 0 || nextKind() == WORD_NEEDS); i++) {
                if (!expect(WORD_NEEDS) || !readInto(needSlot(law.told, i))) {
                    return false;
                }
                needs++;
            }
            if (nextKind() == WORD_NEEDS) {
                return fail(4);
            }
            put(law.names, Law.COUNT_NAME + law.told, name);
            put(law.needs, law.told, needs);
            put(law.first, law.told, law.told);
            start.file(law.told, worth, arose);
            law.told++;
            return expect(';');
        }

        private boolean readPlea() {
            if (law.pleas >= MOST_PLEAS) {
                return fail(4);
            }
            next++;
            if (!knownCount()) {
                return false;
            }
            put(law.pleaOf, law.pleas, got);
            if (!readInto(Law.PLEA_SLOT + law.pleas)) {
                return false;
            }
            law.pleas++;
            return expect(';');
        }

        private boolean readSays() {
            next++;
            if (!knownCount()) {
                return false;
            }
            int k = got;
            boolean so = nextKind() != '!';
            if (!so) {
                next++;
            }
            if (!knownFact()) {
                return false;
            }
            if (has(at(start.said, k), got)) {
                next--;
                return fail(3);
            }
            start.tell(k, got, so ? 1 : 0);
            return expect(';');
        }

        private boolean readSame() {
            next++;
            if (!knownCount()) {
                return false;
            }
            int one = got;
            if (!knownCount()) {
                return false;
            }
            int other = got;
            if (one == other || has(at(law.same, one), other)) {
                next--;
                return fail(3);
            }
            put(law.same, one, at(law.same, one) | 1 << other);
            put(law.same, other, at(law.same, other) | 1 << one);
            law.unite(at(law.first, one), at(law.first, other));
            return expect(';');
        }

        private boolean readLimit() {
            if (law.limit != 0) {
                return fail(3);
            }
            next++;
            if (!number(1, 999)) {
                return false;
            }
            law.limit = got;
            return expect(';');
        }

        private boolean readInto(int slot) {
            put(law.from, slot, law.size);
            boolean right = readEither(0);
            put(law.to, slot, law.size);
            return right;
        }

        private boolean readEither(int open) {
            if (!readEvery(open)) {
                return false;
            }
            for (int i = 0; i < MOST_SIGNS && nextKind() == '|'; i++) {
                next++;
                if (!readEvery(open)) {
                    return false;
                }
                law.emit(OR);
            }
            return true;
        }

        private boolean readEvery(int open) {
            if (!readOne(open)) {
                return false;
            }
            for (int i = 0; i < MOST_SIGNS && nextKind() == '&'; i++) {
                next++;
                if (!readOne(open)) {
                    return false;
                }
                law.emit(AND);
            }
            return true;
        }

        /** Never goes deeper than MOST_OPEN: what would be open within so many is a fault. */
        private boolean readOne(int open) {
            int kind = nextKind();
            if (kind == NUMBER) {
                return readSeveral(open);
            }
            if (kind != '!' && kind != '(') {
                if (!knownFact()) {
                    return false;
                }
                law.emit(got);
                return true;
            }
            if (open >= MOST_OPEN) {
                return fail(4);
            }
            next++;
            if (kind == '(') {
                return readEither(open + 1) && expect(')');
            }
            if (!readOne(open + 1)) {
                return false;
            }
            law.emit(NOT);
            return true;
        }

        private boolean readSeveral(int open) {
            if (!number(0, MOST_LISTED)) {
                return false;
            }
            int least = got;
            if (!expect(WORD_OF)) {
                return false;
            }
            if (nextKind() == '(' && open >= MOST_OPEN) {
                return fail(4);
            }
            if (!expect('(')) {
                return false;
            }
            for (int listed = 1; listed <= MOST_LISTED; listed++) {
                if (!readEither(open + 1)) {
                    return false;
                }
                if (nextKind() == ')') {
                    next++;
                    law.emit(SEVERAL + 8 * least + listed);
                    return true;
                }
                if (!expect(',')) {
                    return false;
                }
            }
            return fail(seventhFault());
        }

        /** One too many is the last fault of its first token: what is wrong with that comes first. */
        private int seventhFault() {
            switch (nextKind()) {
                case '!':
                case '(':
                    return 4;
                case NUMBER:
                    return nextValue() > MOST_LISTED ? 2 : 4;
                case NAME:
                    return law.factNamed(nextValue()) < 0 ? 3 : 4;
                default:
                    return 1;
            }
        }

        private boolean newName() {
            if (nextKind() != NAME) {
                return fail(1);
            }
            got = nextValue();
            if (law.factNamed(got) >= 0 || law.countNamed(got) >= 0) {
                return fail(3);
            }
            next++;
            return true;
        }

        private boolean knownFact() {
            if (nextKind() != NAME) {
                return fail(1);
            }
            got = law.factNamed(nextValue());
            if (got < 0) {
                return fail(3);
            }
            next++;
            return true;
        }

        private boolean knownCount() {
            if (nextKind() != NAME) {
                return fail(1);
            }
            got = law.countNamed(nextValue());
            if (got < 0) {
                return fail(3);
            }
            next++;
            return true;
        }

        private boolean number(int least, int most) {
            if (nextKind() != NUMBER) {
                return fail(1);
            }
            got = nextValue();
            if (got < least || got > most) {
                return fail(2);
            }
            next++;
            return true;
        }

        private boolean expect(int kind) {
            if (nextKind() != kind) {
                return fail(1);
            }
            next++;
            return true;
        }

        private int nextKind() {
            return next >= 0 && next < tokens.kinds.length ? tokens.kinds[next] : END;
        }

        private int nextValue() {
            return next >= 0 && next < tokens.values.length ? tokens.values[next] : 0;
        }

        private boolean fail(int which) {
            fault = which;
            if (next >= 0 && next < tokens.places.length) {
                place = tokens.places[next];
            }
            return false;
        }
    }

    /** The suit as it was told: what no act changes. */
    private static final class Law {
        private static final int PLEA_SLOT = MOST_TOLD * MOST_NEEDS;
        private static final int SLOTS = PLEA_SLOT + MOST_PLEAS;
        /** Names of facts stand ahead of this place, of counts from it on. */
        private static final int COUNT_NAME = MOST_FACTS;

        private int lines;
        private int facts;
        private int told;
        private int nevers;
        private int pleas;
        /** 0 as long as none has been told. */
        private int limit;
        private final int[] odds = new int[MOST_FACTS];
        private final int[] names = new int[COUNT_NAME + MOST_TOLD];
        private final int[] needs = new int[MOST_TOLD];
        private final int[] pleaOf = new int[MOST_PLEAS];
        private final int[] same = new int[MOST_TOLD];
        /** The least count of the same injury. */
        private final int[] first = new int[MOST_TOLD];
        /** What is needed and pleaded, operands ahead of their operators; then what is asked. */
        private final int[] code = new int[2 * MOST_SIGNS];
        private int size;
        private final int[] from = new int[SLOTS];
        private final int[] to = new int[SLOTS];
        private final int[] weights = new int[SETS];
        private final Worlds possible = new Worlds();
        private final Worlds[] tables = new Worlds[SLOTS + MOST_TOLD];
        private final Worlds nowhere = new Worlds();

        private Law() {
            for (int i = 0; i < tables.length; i++) {
                tables[i] = new Worlds();
            }
        }

        private void clear() {
            lines = 0;
            facts = 0;
            told = 0;
            nevers = 0;
            pleas = 0;
            limit = 0;
            size = 0;
            wipe(needs);
            wipe(same);
            wipe(from);
            wipe(to);
            possible.fill();
        }

        /** Works out, once for all calls, in which worlds what is needed and pleaded holds. */
        private void finish(Seer seer) {
            limit = limit == 0 ? USUAL_LIMIT : limit;
            possible.keepFirst(facts);
            for (int slot = 0; slot < SLOTS; slot++) {
                seer.tabulate(code, at(from, slot), at(to, slot), table(slot));
            }
            for (int kind = 0; kind < told; kind++) {
                finishWon(kind, wonBy(kind));
            }
            for (int world = 0; world < SETS; world++) {
                put(weights, world, weightOf(world));
            }
        }

        private void finishWon(int kind, Worlds won) {
            won.fill();
            for (int i = 0; i < at(needs, kind); i++) {
                won.and(table(needSlot(kind, i)));
            }
            for (int p = 0; p < pleas; p++) {
                if (at(pleaOf, p) == kind) {
                    won.minus(table(PLEA_SLOT + p));
                }
            }
        }

        private int weightOf(int world) {
            int weight = 1;
            for (int f = 0; f < facts; f++) {
                weight *= has(world, f) ? at(odds, f) : 10 - at(odds, f);
            }
            return weight;
        }

        private void unite(int one, int other) {
            for (int k = 0; k < told; k++) {
                if (at(first, k) == one || at(first, k) == other) {
                    put(first, k, Math.min(one, other));
                }
            }
        }

        private void emit(int what) {
            put(code, size, what);
            size++;
        }

        private int factNamed(int name) {
            for (int f = 0; f < facts && f < names.length; f++) {
                if (names[f] == name) {
                    return f;
                }
            }
            return NONE;
        }

        private int countNamed(int name) {
            for (int i = COUNT_NAME; i < COUNT_NAME + told && i < names.length; i++) {
                if (names[i] == name) {
                    return i - COUNT_NAME;
                }
            }
            return NONE;
        }

        /** The worlds in which what stands in a slot holds. */
        private Worlds table(int slot) {
            if (slot < 0 || slot >= tables.length || tables[slot] == null) {
                return nowhere;
            }
            return tables[slot];
        }

        private Worlds wonBy(int kind) {
            return table(SLOTS + kind);
        }

        private int pleasOf(int kind) {
            int sum = 0;
            for (int p = 0; p < pleas; p++) {
                sum += at(pleaOf, p) == kind ? 1 : 0;
            }
            return sum;
        }

        private int pleaSlot(int kind, int i) {
            int ahead = i;
            for (int p = 0; p < pleas && ahead >= 0; p++) {
                if (at(pleaOf, p) == kind) {
                    if (ahead == 0) {
                        return PLEA_SLOT + p;
                    }
                    ahead--;
                }
            }
            return NONE;
        }

        private boolean needsSure(int kind, Worlds by) {
            for (int i = 0; i < at(needs, kind); i++) {
                if (!by.within(table(needSlot(kind, i)))) {
                    return false;
                }
            }
            return true;
        }

        private boolean needsMet(int kind, Worlds by) {
            for (int i = 0; i < at(needs, kind); i++) {
                if (!by.meets(table(needSlot(kind, i)))) {
                    return false;
                }
            }
            return true;
        }

        private boolean barred(int kind, Worlds by) {
            for (int p = 0; p < pleas; p++) {
                if (at(pleaOf, p) == kind && by.within(table(PLEA_SLOT + p))) {
                    return true;
                }
            }
            return false;
        }

        /** Bits of a world: 1 it is one, 2 something needed fails in it, 4 and up: a plea fails. */
        private int flawsAt(int kind, int world) {
            if (!possible.holds(world)) {
                return 0;
            }
            int flaws = 1;
            for (int i = 0; i < at(needs, kind); i++) {
                flaws |= table(needSlot(kind, i)).holds(world) ? 0 : 2;
            }
            for (int p = 0; p < pleas; p++) {
                if (at(pleaOf, p) == kind && !table(PLEA_SLOT + p).holds(world)) {
                    flaws |= 4 << p;
                }
            }
            return flaws;
        }

        /** Whether worlds with these bits, put together, let a count stand that alleges them. */
        private boolean sound(int kind, int flaws) {
            int due = 1;
            for (int p = 0; p < pleas; p++) {
                due |= at(pleaOf, p) == kind ? 4 << p : 0;
            }
            return (flaws & (due | 2)) == due;
        }

        private long weigh(Worlds among) {
            long sum = 0;
            for (int world = 0; world < SETS; world++) {
                if (among.holds(world)) {
                    sum += at(weights, world);
                }
            }
            return sum;
        }
    }

    /** What acts have made: how facts are, closed, counts, the day. */
    private static final class State {
        private int day;
        private boolean closed;
        private int counts;
        private int struck;
        private int admitted;
        private int denied;
        private int notKnown;
        private int found;
        /** Of the known facts the ones that are so. */
        private int so;
        private final int[] kinds = new int[MOST_COUNTS];
        private final int[] worth = new int[MOST_COUNTS];
        private final int[] arose = new int[MOST_COUNTS];
        private final int[] filed = new int[MOST_COUNTS];
        private final int[] said = new int[MOST_COUNTS];
        private final int[] saidSo = new int[MOST_COUNTS];

        private void clear() {
            day = 0;
            closed = false;
            counts = 0;
            struck = 0;
            admitted = 0;
            denied = 0;
            notKnown = 0;
            found = 0;
            so = 0;
        }

        private void copy(State other) {
            day = other.day;
            closed = other.closed;
            counts = other.counts;
            struck = other.struck;
            admitted = other.admitted;
            denied = other.denied;
            notKnown = other.notKnown;
            found = other.found;
            so = other.so;
            copyRow(other.kinds, kinds);
            copyRow(other.worth, worth);
            copyRow(other.arose, arose);
            copyRow(other.filed, filed);
            copyRow(other.said, said);
            copyRow(other.saidSo, saidSo);
        }

        private int known() {
            return admitted | found;
        }

        private int answered() {
            return Integer.bitCount(admitted | denied | notKnown | found);
        }

        private int howIs(int f) {
            if (has(admitted, f)) {
                return ADMITTED;
            }
            if (has(denied, f)) {
                return DENIED;
            }
            if (has(notKnown, f)) {
                return NOT_KNOWN;
            }
            return has(found, f) ? FOUND : 0;
        }

        private void become(int f, int how, boolean is) {
            int bit = 1 << f;
            admitted = how == ADMITTED ? admitted | bit : admitted & ~bit;
            denied = how == DENIED ? denied | bit : denied & ~bit;
            notKnown = how == NOT_KNOWN ? notKnown | bit : notKnown & ~bit;
            found = how == FOUND ? found | bit : found & ~bit;
            boolean knownSo = is && (how == ADMITTED || how == FOUND);
            so = knownSo ? so | bit : so & ~bit;
        }

        private int sayers(int f) {
            int set = 0;
            for (int k = 0; k < counts; k++) {
                if (has(at(said, k), f)) {
                    set |= 1 << k;
                }
            }
            return set;
        }

        private int firstSayer(int f) {
            for (int k = 0; k < counts; k++) {
                if (has(at(said, k), f) && !has(struck, k)) {
                    return k;
                }
            }
            return NONE;
        }

        /** How 0: as not so, 1: as so, 2: no more. */
        private void tell(int k, int f, int how) {
            int bit = 1 << f;
            put(said, k, how < 2 ? at(said, k) | bit : at(said, k) & ~bit);
            put(saidSo, k, how == 1 ? at(saidSo, k) | bit : at(saidSo, k) & ~bit);
        }

        private int file(int kind, int itsWorth, int itsArose) {
            int k = counts;
            put(kinds, k, kind);
            put(worth, k, itsWorth);
            put(arose, k, itsArose);
            put(filed, k, day);
            put(said, k, 0);
            put(saidSo, k, 0);
            counts++;
            return k;
        }
    }

    /** States as they were ahead of the last acts, and the ones that are kept. */
    private static final class History {
        private final State[] ahead = new State[MOST_ACTS];
        private final State[] kept = new State[MOST_KEPT];
        private int keptSet;
        private int top;
        private int done;

        private History() {
            for (int i = 0; i < MOST_ACTS; i++) {
                ahead[i] = new State();
            }
            for (int i = 0; i < MOST_KEPT; i++) {
                kept[i] = new State();
            }
        }

        private void forget() {
            done = 0;
            keptSet = 0;
        }

        private void note(State now) {
            if (top >= 0 && top < ahead.length && ahead[top] != null) {
                ahead[top].copy(now);
            }
            top = top + 1 & MOST_ACTS - 1;
            done = Math.min(done + 1, MOST_ACTS);
        }

        private boolean takeBack(State now) {
            if (done == 0) {
                return false;
            }
            top = top - 1 & MOST_ACTS - 1;
            done--;
            if (top >= 0 && top < ahead.length && ahead[top] != null) {
                now.copy(ahead[top]);
            }
            return true;
        }

        private boolean store(int i, State now) {
            if (i < 0 || i >= kept.length || kept[i] == null) {
                return false;
            }
            kept[i].copy(now);
            keptSet |= 1 << i;
            return true;
        }

        private boolean restore(int i, State now) {
            if (i < 0 || i >= kept.length || kept[i] == null || !has(keptSet, i)) {
                return false;
            }
            note(now);
            now.copy(kept[i]);
            return true;
        }
    }

    /** A set of the 256 sets of facts, a bit each. */
    private static final class Worlds {
        /** In which of 64 sets each of the first six facts is. */
        private static final long[] SO = {
            0xAAAAAAAAAAAAAAAAL, 0xCCCCCCCCCCCCCCCCL, 0xF0F0F0F0F0F0F0F0L,
            0xFF00FF00FF00FF00L, 0xFFFF0000FFFF0000L, 0xFFFFFFFF00000000L};

        private final long[] parts = new long[PARTS];

        private static long soIn(int f, int part) {
            if (f >= 0 && f < SO.length) {
                return SO[f];
            }
            return (part >> f - SO.length & 1) != 0 ? -1L : 0L;
        }

        private void fill() {
            for (int i = 0; i < parts.length; i++) {
                parts[i] = -1L;
            }
        }

        private void copy(Worlds other) {
            for (int i = 0; i < parts.length && i < other.parts.length; i++) {
                parts[i] = other.parts[i];
            }
        }

        private void and(Worlds other) {
            for (int i = 0; i < parts.length && i < other.parts.length; i++) {
                parts[i] &= other.parts[i];
            }
        }

        private void minus(Worlds other) {
            for (int i = 0; i < parts.length && i < other.parts.length; i++) {
                parts[i] &= ~other.parts[i];
            }
        }

        private void agree(int facts, int so) {
            for (int f = 0; f < MOST_FACTS; f++) {
                for (int i = 0; i < parts.length && has(facts, f); i++) {
                    parts[i] &= has(so, f) ? soIn(f, i) : ~soIn(f, i);
                }
            }
        }

        /** Of the facts behind the told ones, none is so. */
        private void keepFirst(int facts) {
            agree(-1 << facts, 0);
        }

        private boolean isEmpty() {
            return size() == 0;
        }

        private int size() {
            int sum = 0;
            for (int i = 0; i < parts.length; i++) {
                sum += Long.bitCount(parts[i]);
            }
            return sum;
        }

        private boolean within(Worlds other) {
            for (int i = 0; i < parts.length && i < other.parts.length; i++) {
                if ((parts[i] & ~other.parts[i]) != 0) {
                    return false;
                }
            }
            return true;
        }

        private boolean meets(Worlds other) {
            for (int i = 0; i < parts.length && i < other.parts.length; i++) {
                if ((parts[i] & other.parts[i]) != 0) {
                    return true;
                }
            }
            return false;
        }

        /** 1: all of these are in the other set, 0: none, 2: else. */
        private int howIn(Worlds other) {
            return within(other) ? 1 : meets(other) ? 2 : 0;
        }

        private boolean holds(int world) {
            int i = world >> 6;
            return i >= 0 && i < parts.length && (parts[i] >>> (world & 63) & 1) != 0;
        }
    }

    /**
     * Runs code. Each value is a pair of rows of bits, where it is yes and where it is no: over 64
     * worlds at once, or with all bits alike as the facts are alleged, which leaves some open.
     */
    private static final class Seer {
        private static final int HIGHEST = 64;
        private static final int ALLEGED = -1;

        private final long[] yes = new long[HIGHEST];
        private final long[] no = new long[HIGHEST];
        private final long[] reached = new long[MOST_LISTED + 1];
        private int height;
        /** The part of the worlds, or ALLEGED. */
        private int part;
        private int said;
        private int saidSo;

        private void tabulate(int[] code, int from, int to, Worlds into) {
            for (int i = 0; i < PARTS; i++) {
                part = i;
                run(code, from, to);
                putLong(into.parts, i, longAt(yes, 0));
            }
        }

        /** 1 yes, 0 no, 2 open. */
        private int glance(Law law, int slot, int facts, int factsSo) {
            part = ALLEGED;
            said = facts;
            saidSo = factsSo;
            run(law.code, at(law.from, slot), at(law.to, slot));
            if (longAt(yes, 0) != 0) {
                return 1;
            }
            return longAt(no, 0) != 0 ? 0 : 2;
        }

        private void run(int[] code, int from, int to) {
            height = 0;
            replace(0, 0, 0);
            height = 0;
            for (int i = from; i >= 0 && i < to && i < code.length; i++) {
                int what = code[i];
                if (what < NOT) {
                    replace(0, leafYes(what), leafNo(what));
                } else if (what == NOT) {
                    replace(1, top(no, 0), top(yes, 0));
                } else if (what == AND) {
                    replace(2, top(yes, 1) & top(yes, 0), top(no, 1) | top(no, 0));
                } else if (what == OR) {
                    replace(2, top(yes, 1) | top(yes, 0), top(no, 1) & top(no, 0));
                } else {
                    int least = what - SEVERAL >> 3;
                    int listed = what - SEVERAL & 7;
                    // It is no, if fewer than least are yes or open: if more than the rest are no.
                    replace(listed, atLeast(least, yes, listed), atLeast(listed - least + 1, no, listed));
                }
            }
        }

        private long leafYes(int f) {
            if (part == ALLEGED) {
                return has(said & saidSo, f) ? -1L : 0L;
            }
            return Worlds.soIn(f, part);
        }

        private long leafNo(int f) {
            if (part == ALLEGED) {
                return has(said & ~saidSo, f) ? -1L : 0L;
            }
            return ~Worlds.soIn(f, part);
        }

        /** Where so many, or more, of the listed values on top are set in this row. */
        private long atLeast(int many, long[] row, int listed) {
            if (many <= 0) {
                return -1L;
            }
            if (many > listed) {
                return 0L;
            }
            for (int i = 0; i < reached.length; i++) {
                reached[i] = i == 0 ? -1L : 0L;
            }
            for (int i = 0; i < listed; i++) {
                long one = top(row, i);
                for (int j = reached.length - 1; j > 0; j--) {
                    reached[j] |= reached[j - 1] & one;
                }
            }
            return longAt(reached, many);
        }

        private long top(long[] row, int below) {
            int i = height - 1 - below;
            return i >= 0 && i < row.length ? row[i] : 0L;
        }

        private void replace(int taken, long newYes, long newNo) {
            height -= taken;
            if (height >= 0 && height < yes.length && height < no.length) {
                yes[height] = newYes;
                no[height] = newNo;
            }
            height++;
        }
    }

    /**
     * All that can be learned of the free facts: a node says of each that it is so, not so, or is not
     * told, and bears a mark, put together of the leaves (worlds) that agree with it. A node's number
     * has a digit of three a fact: 0 not told, 1 not so, 2 so.
     */
    private static final class Tree {
        private static final int NODES = 6561;

        /** The number with a digit 1 for each fact of a set. */
        private final int[] threes = new int[SETS];
        private final int[] leaves = new int[SETS];
        private final int[] marks = new int[NODES];
        private final int[] values = new int[NODES];
        private int free;

        private Tree() {
            for (int set = 1; set < SETS; set++) {
                put(threes, set, at(threes, set >> 1) * 3 + (set & 1));
            }
        }

        private int node(int facts, int so) {
            return at(threes, facts) + at(threes, so);
        }

        private int markOf(int facts, int so) {
            return at(marks, node(facts, so));
        }

        /** Of the node where nothing is told. */
        private int value() {
            return at(values, 0);
        }

        private void setLeaf(int world, int mark) {
            put(leaves, world, mark);
        }

        /** Marks come from nodes with more told, so sets of facts go from the greatest down. */
        private void grow(int freeFacts, int fixedSo) {
            free = freeFacts;
            for (int facts = free; facts >= 0; facts--) {
                for (int so = facts; so >= 0 && (facts & ~free) == 0; so--) {
                    if ((so & ~facts) == 0) {
                        int node = node(facts, so);
                        int untold = free & ~facts;
                        put(marks, node, untold == 0 ? at(leaves, so | fixedSo) : markFrom(node, untold));
                    }
                }
            }
        }

        private int markFrom(int node, int untold) {
            int three = at(threes, untold & -untold);
            return at(marks, node + three) | at(marks, node + 2 * three);
        }

        /** Values: how many trials it takes from there on. */
        private void countTrials() {
            for (int facts = free; facts >= 0; facts--) {
                for (int so = facts; so >= 0 && (facts & ~free) == 0; so--) {
                    if ((so & ~facts) == 0) {
                        int node = node(facts, so);
                        put(values, node, at(marks, node) == MIXED ? fewestTrials(facts, node) : 0);
                    }
                }
            }
        }

        private int fewestTrials(int facts, int node) {
            int fewest = MOST_FACTS;
            for (int f = 0; f < MOST_FACTS; f++) {
                if (has(free & ~facts, f)) {
                    fewest = Math.min(fewest, trialsBy(f, node));
                }
            }
            return fewest;
        }

        /** Where no world is left, the value is 0, which never is the worse one. */
        private int trialsBy(int f, int node) {
            int three = at(threes, 1 << f);
            return 1 + Math.max(at(values, node + three), at(values, node + 2 * three));
        }

        private int firstTrial() {
            for (int f = 0; f < MOST_FACTS; f++) {
                if (has(free, f) && trialsBy(f, 0) == value()) {
                    return f;
                }
            }
            return NONE;
        }

        /** Values: 1 if the one who pleads wins from there on, else 0. */
        private void playOut(int first) {
            for (int facts = free; facts >= 0; facts--) {
                int mover = first + Integer.bitCount(facts) & 1;
                for (int so = facts; so >= 0 && (facts & ~free) == 0; so--) {
                    if ((so & ~facts) == 0) {
                        int node = node(facts, so);
                        put(values, node, winner(facts, node, mover));
                    }
                }
            }
        }

        private int winner(int facts, int node, int mover) {
            if (facts == free) {
                return at(marks, node) == ALL_WON ? 1 : 0;
            }
            int wish = 1 - mover;
            return bestTurn(facts, node, wish) >= 0 ? wish : 1 - wish;
        }

        /** The least fact and way that lead to a wished value, as twice the fact, one more if so. */
        private int bestTurn(int facts, int node, int wish) {
            for (int f = 0; f < MOST_FACTS; f++) {
                if (has(free & ~facts, f)) {
                    int three = at(threes, 1 << f);
                    if (leadsTo(node + three, wish)) {
                        return 2 * f;
                    }
                    if (leadsTo(node + 2 * three, wish)) {
                        return 2 * f + 1;
                    }
                }
            }
            return NONE;
        }

        private boolean leadsTo(int node, int wish) {
            return at(marks, node) != 0 && at(values, node) == wish;
        }

        private int winningTurn(int first) {
            return bestTurn(0, 0, 1 - first);
        }

        /** Whether each leaf has this mark, but no longer with any one literal left out. */
        private boolean isProof(int facts, int so, int want) {
            int node = node(facts, so);
            if (at(marks, node) != want) {
                return false;
            }
            for (int f = 0; f < MOST_FACTS; f++) {
                int digit = has(so, f) ? 2 : 1;
                if (has(facts, f) && at(marks, node - digit * at(threes, 1 << f)) == want) {
                    return false;
                }
            }
            return true;
        }
    }

    /** Sets of literals of the free facts: by how many, then by facts, then by the ones as so. */
    private static final class Picks {
        private int free;
        private int size;
        private int facts;
        private int so;
        private boolean begun;

        private void start(int freeFacts) {
            free = freeFacts;
            size = 0;
            facts = 0;
            so = 0;
            begun = false;
        }

        private boolean more() {
            if (!begun) {
                begun = true;
                return true;
            }
            if (so != facts) {
                so = so - facts & facts;
                return true;
            }
            so = 0;
            return nextFacts();
        }

        private boolean nextFacts() {
            for (int i = 0; i < SETS * (MOST_FACTS + 1); i++) {
                facts = facts - free & free;
                if (facts == 0) {
                    size++;
                }
                if (size > Integer.bitCount(free)) {
                    return false;
                }
                if (Integer.bitCount(facts) == size) {
                    return true;
                }
            }
            return false;
        }
    }

    /** Unlike sets of counts won in one world, in the order of their first worlds. */
    private static final class Tally {
        private final int[] sets = new int[SETS];
        private final int[] times = new int[SETS];
        private final int[] firsts = new int[SETS];
        private final long[] weights = new long[SETS];
        /** Of a set of counts its place, and one more. */
        private final int[] places = new int[SETS];
        private int size;

        private void clear() {
            size = 0;
            wipe(places);
        }

        private void enter(int set, int world, int weight) {
            int i = at(places, set) - 1;
            if (i < 0) {
                i = size;
                size++;
                put(places, set, size);
                put(sets, i, set);
                put(firsts, i, world);
                put(times, i, 0);
                putLong(weights, i, 0);
            }
            put(times, i, at(times, i) + 1);
            putLong(weights, i, longAt(weights, i) + weight);
        }
    }
}
