import java.util.ArrayList;
import java.util.HashMap;
import java.util.List;
import java.util.Map;

/**
 * The document's words, followed one by one and by going through all sets, with
 * no theory of the game: what SwitchGame answers is held against it.
 */
public final class Model {
    public int knots = 2;
    public int endA = 0;
    public int endB = 1;
    public int told = 0;
    public final List<int[]> lines = new ArrayList<>();
    /** 0 OPEN, 1 JOINED, 2 GONE. */
    public int[] state = new int[0];
    public int mover = 1;
    public final List<Integer> history = new ArrayList<>();
    private final Map<String, Boolean> safeKnown = new HashMap<>();
    private final Map<String, Integer> fullKnown = new HashMap<>();

    // ---- positions

    private static int[] with(int[] state, int i, int value) {
        int[] other = state.clone();
        other[i] = value;
        return other;
    }

    private int reach(int knot, int[] state, boolean openToo) {
        int seen = 1 << knot;
        for (boolean more = true; more;) {
            more = false;
            for (int i = 0; i < lines.size(); i++) {
                if (state[i] == 1 || openToo && state[i] == 0) {
                    int a = 1 << lines.get(i)[0];
                    int b = 1 << lines.get(i)[1];
                    if (((seen & a) != 0) != ((seen & b) != 0)) {
                        seen |= a | b;
                        more = true;
                    }
                }
            }
        }
        return seen;
    }

    private int placeIn(int[] state, int knot) {
        return Integer.numberOfTrailingZeros(reach(knot, state, false));
    }

    private int holder(int[] state) {
        if ((reach(endA, state, false) >> endB & 1) != 0) {
            return 0;
        }
        return (reach(endA, state, true) >> endB & 1) != 0 ? 2 : 1;
    }

    private List<Integer> open(int[] state) {
        List<Integer> open = new ArrayList<>();
        for (int i = 0; i < lines.size(); i++) {
            if (state[i] == 0) {
                open.add(i);
            }
        }
        return open;
    }

    private int placesIn(int[] state) {
        int bits = 0;
        for (int k = 0; k < knots; k++) {
            bits |= 1 << placeIn(state, k);
        }
        return bits;
    }

    // ---- PAIR

    private boolean isTree(int[] state, int chosen, int set) {
        if (Integer.bitCount(chosen) != Integer.bitCount(set) - 1) {
            return false;
        }
        int seen = Integer.lowestOneBit(set);
        for (boolean more = true; more;) {
            more = false;
            for (int i = 0; i < lines.size(); i++) {
                if ((chosen >> i & 1) != 0) {
                    int a = 1 << placeIn(state, lines.get(i)[0]);
                    int b = 1 << placeIn(state, lines.get(i)[1]);
                    if ((set & a) == 0 || (set & b) == 0) {
                        return false;
                    }
                    if (((seen & a) != 0) != ((seen & b) != 0)) {
                        seen |= a | b;
                        more = true;
                    }
                }
            }
        }
        return seen == set;
    }

    /** All trees of a SET, the least as bits first. */
    private List<Integer> treesOf(int[] state, int set) {
        int inside = 0;
        for (int i : open(state)) {
            int a = placeIn(state, lines.get(i)[0]);
            int b = placeIn(state, lines.get(i)[1]);
            if (a != b && (set >> a & 1) != 0 && (set >> b & 1) != 0) {
                inside |= 1 << i;
            }
        }
        List<Integer> trees = new ArrayList<>();
        for (int chosen = 0; chosen < 1 << lines.size(); chosen++) {
            if ((chosen & ~inside) == 0 && isTree(state, chosen, set)) {
                trees.add(chosen);
            }
        }
        return trees;
    }

    private int[] pairOn(int[] state, int set) {
        List<Integer> trees = treesOf(state, set);
        for (int a : trees) {
            for (int b : trees) {
                if ((a & b) == 0) {
                    return new int[] {set, a, b, Integer.bitCount(set)};
                }
            }
        }
        return null;
    }

    private List<Integer> setsOf(int[] state) {
        List<Integer> sets = new ArrayList<>();
        if (holder(state) == 0) {
            return sets;
        }
        int all = placesIn(state);
        int ends = 1 << placeIn(state, endA) | 1 << placeIn(state, endB);
        for (int size = 2; size <= knots; size++) {
            for (int set = 0; set < 1 << knots; set++) {
                if (Integer.bitCount(set) == size && (set & ~all) == 0 && (set & ends) == ends) {
                    sets.add(set);
                }
            }
        }
        return sets;
    }

    private int[] pairOf(int[] state) {
        for (int set : setsOf(state)) {
            int[] pair = pairOn(state, set);
            if (pair != null) {
                return pair;
            }
        }
        return null;
    }

    private boolean safe(int[] state) {
        String key = keyOf(state);
        Boolean known = safeKnown.get(key);
        if (known == null) {
            known = holder(state) == 0 || pairOf(state) != null;
            safeKnown.put(key, known);
        }
        return known;
    }

    private String keyOf(int[] state) {
        StringBuilder key = new StringBuilder();
        key.append(endA).append(endB).append(lines.size()).append(' ');
        for (int s : state) {
            key.append(s);
        }
        if (lines.size() > 0) {
            int[] last = lines.get(lines.size() - 1);
            key.append(' ').append(last[0]).append(last[1]);
        }
        return key.toString();
    }

    private boolean keen(int[] state) {
        if (holder(state) == 0) {
            return true;
        }
        for (int i : open(state)) {
            if (safe(with(state, i, 1))) {
                return true;
            }
        }
        return false;
    }

    private int outcomeOf(int[] state) {
        if (safe(state)) {
            return 0;
        }
        return keen(state) ? 2 : 1;
    }

    private boolean winsFor(int who, int[] state, int i) {
        if (holder(state) != 2 || state[i] != 0) {
            return false;
        }
        return who == 0 ? safe(with(state, i, 1)) : !keen(with(state, i, 2));
    }

    // ---- the calls

    private boolean isLine(int i) {
        return i >= 0 && i < lines.size();
    }

    private boolean isKnot(int k) {
        return k >= 0 && k < knots;
    }

    public int line(int i, int what) {
        if (!isLine(i)) {
            return 1000;
        }
        if (what < 0 || what > 2) {
            return 2000;
        }
        return what < 2 ? lines.get(i)[what] : state[i];
    }

    public int place(int knot) {
        return isKnot(knot) ? placeIn(state, knot) : -1;
    }

    public int reaches(int knot, int what) {
        return !isKnot(knot) || what < 0 || what > 1 ? -1 : reach(knot, state, what == 1);
    }

    private void note(int entry) {
        history.add(entry);
        if (history.size() > 40) {
            history.remove(0);
        }
        mover = 1 - mover;
    }

    public int move(int i) {
        if (!isLine(i)) {
            return -1;
        }
        if (state[i] != 0) {
            return -2;
        }
        if (holder(state) != 2) {
            return -3;
        }
        state[i] = mover == 0 ? 1 : 2;
        note(i);
        return holder(state);
    }

    public int pass() {
        if (holder(state) != 2) {
            return 0;
        }
        note(-2);
        return 1;
    }

    public int undo() {
        if (history.isEmpty()) {
            return -1;
        }
        int i = history.remove(history.size() - 1);
        mover = 1 - mover;
        if (i >= 0) {
            state[i] = 0;
        }
        return i;
    }

    public int written(int k) {
        if (k < 0) {
            return -1;
        }
        if (k >= history.size()) {
            return -2;
        }
        return history.get(k) < 0 ? -3 : history.get(k);
    }

    private int inState(int s) {
        int n = 0;
        for (int x : state) {
            n += x == s ? 1 : 0;
        }
        return n;
    }

    public int now(int what) {
        switch (what) {
            case 0: return mover;
            case 1: return holder(state);
            case 2: return inState(0);
            case 3: return inState(1);
            case 4: return inState(2);
            case 5: return Integer.bitCount(placesIn(state));
            case 6: return history.size();
            default: return -1;
        }
    }

    public int pair(int what) {
        if (what < 0 || what > 3) {
            return -1;
        }
        int[] pair = pairOf(state);
        return pair == null ? -2 : pair[what];
    }

    public int outcome() {
        return outcomeOf(state);
    }

    public int wins(int who, int k) {
        if (who < 0 || who > 1 || k < 0) {
            return -1;
        }
        int left = k;
        for (int i = 0; i < lines.size(); i++) {
            if (winsFor(who, state, i) && left-- == 0) {
                return i;
            }
        }
        return -2;
    }

    private int answerIn(int[] state, int i) {
        int[] pair = pairOf(state);
        if (pair == null) {
            return -3;
        }
        int both = pair[1] | pair[2];
        if ((both >> i & 1) == 0) {
            return Integer.numberOfTrailingZeros(both);
        }
        int own = (pair[1] >> i & 1) != 0 ? pair[1] : pair[2];
        for (int j = 0; j < lines.size(); j++) {
            if (((both & ~own) >> j & 1) != 0 && isTree(state, own & ~(1 << i) | 1 << j, pair[0])) {
                return j;
            }
        }
        throw new IllegalStateException("no answer");
    }

    public int answer(int i) {
        if (!isLine(i)) {
            return -1;
        }
        return state[i] != 0 ? -2 : answerIn(state, i);
    }

    public int exchange(int i) {
        if (!isLine(i)) {
            return -1;
        }
        int[] pair = pairOf(state);
        if (pair == null) {
            return -3;
        }
        int both = pair[1] | pair[2];
        if ((both >> i & 1) == 0) {
            return -2;
        }
        int own = (pair[1] >> i & 1) != 0 ? pair[1] : pair[2];
        int other = both & ~own;
        for (int j = 0; j < lines.size(); j++) {
            if ((other >> j & 1) != 0 && isTree(state, own & ~(1 << i) | 1 << j, pair[0])
                    && isTree(state, other & ~(1 << j) | 1 << i, pair[0])) {
                return j;
            }
        }
        throw new IllegalStateException("no exchange");
    }

    public int played(int what) {
        if (what < -1) {
            return -3;
        }
        int[] at = state.clone();
        int who = mover;
        List<Integer> moves = new ArrayList<>();
        while (holder(at) == 2) {
            int chosen = -1;
            for (int i = 0; i < lines.size() && chosen < 0; i++) {
                if (winsFor(who, at, i)) {
                    chosen = i;
                }
            }
            if (chosen < 0) {
                chosen = open(at).get(0);
            }
            at[chosen] = who == 0 ? 1 : 2;
            moves.add(chosen);
            who = 1 - who;
        }
        if (what == -1) {
            return moves.size();
        }
        return what < moves.size() ? moves.get(what) : -2;
    }

    private void verify(int[] at, int[] sums) {
        if (holder(at) != 2) {
            sums[0]++;
            sums[1] += holder(at) == 0 ? 1 : 0;
            return;
        }
        for (int i : open(at)) {
            int reply = answerIn(at, i);
            verify(with(with(at, i, 2), reply, 1), sums);
        }
    }

    public int verified(int what) {
        if (what < 0 || what > 1) {
            return -1;
        }
        if (inState(0) > 10 || pairOf(state) == null) {
            return -2;
        }
        int[] sums = new int[2];
        verify(state, sums);
        return sums[what];
    }

    private int fullIn(int[] at, int who) {
        int holder = holder(at);
        if (holder != 2) {
            return holder;
        }
        String key = who + keyOf(at);
        Integer known = fullKnown.get(key);
        if (known == null) {
            known = 1 - who;
            for (int i : open(at)) {
                if (fullIn(with(at, i, who + 1), 1 - who) == who) {
                    known = who;
                    break;
                }
            }
            fullKnown.put(key, known);
        }
        return known;
    }

    public int full(int who) {
        if (who < 0 || who > 1) {
            return -1;
        }
        return inState(0) > 10 ? -2 : fullIn(state, who);
    }

    public int positions(int what) {
        if (what < 0 || what > 3) {
            return -1;
        }
        if (inState(0) > 10) {
            return -2;
        }
        int[] sums = new int[4];
        positionsFrom(state.clone(), open(state), 0, sums);
        return sums[what];
    }

    private void positionsFrom(int[] at, List<Integer> open, int k, int[] sums) {
        if (k == open.size()) {
            sums[holder(at)]++;
            sums[3]++;
            return;
        }
        for (int s = 0; s < 3; s++) {
            at[open.get(k)] = s;
            positionsFrom(at, open, k + 1, sums);
        }
        at[open.get(k)] = 0;
    }

    private int openBits() {
        int bits = 0;
        for (int i : open(state)) {
            bits |= 1 << i;
        }
        return bits;
    }

    private int[] put(int set, int value) {
        int[] at = state.clone();
        for (int i = 0; i < lines.size(); i++) {
            if ((set >> i & 1) != 0) {
                at[i] = value;
            }
        }
        return at;
    }

    private boolean isLucky(int set) {
        return holder(put(set, 1)) == 0;
    }

    private boolean isWall(int set) {
        return holder(put(set, 2)) == 1;
    }

    private boolean[] luckyRow;

    private void makeLuckyRow() {
        luckyRow = new boolean[1 << lines.size()];
        for (int set = 0; set < luckyRow.length; set++) {
            luckyRow[set] = (set & ~openBits()) == 0 && isLucky(set);
        }
    }

    /** To be called after each change, before the calls about LUCKY sets. */
    public void fresh() {
        makeLuckyRow();
    }

    public int wall(int what) {
        if (what < 0 || what > 1) {
            return -1;
        }
        if (holder(state) == 0) {
            return -2;
        }
        return least(what, true);
    }

    private int least(int what, boolean wall) {
        int best = -1;
        for (int set = 0; set < 1 << lines.size(); set++) {
            if ((set & ~openBits()) == 0 && (best < 0 || Integer.bitCount(set) < Integer.bitCount(best))
                    && (wall ? isWall(set) : luckyRow[set])) {
                best = set;
            }
        }
        return what == 0 ? Integer.bitCount(best) : best;
    }

    public int road(int what) {
        if (what < 0 || what > 1) {
            return -1;
        }
        if (holder(state) == 1) {
            return -2;
        }
        return least(what, false);
    }

    public int lucky(int k) {
        if (k < -1 || k > inState(0)) {
            return -2;
        }
        int sum = 0;
        for (int set = 0; set < luckyRow.length; set++) {
            sum += luckyRow[set] && (k == -1 || Integer.bitCount(set) == k) ? 1 : 0;
        }
        return sum;
    }

    public int walls(int k) {
        if (k < -1 || k > inState(0)) {
            return -2;
        }
        int sum = 0;
        for (int set = 0; set < luckyRow.length; set++) {
            sum += (set & ~openBits()) == 0 && (k == -1 || Integer.bitCount(set) == k) && isWall(set) ? 1 : 0;
        }
        return sum;
    }

    public int luckyWith(int i) {
        if (!isLine(i)) {
            return -1;
        }
        if (state[i] != 0) {
            return -2;
        }
        int sum = 0;
        for (int set = 0; set < luckyRow.length; set++) {
            sum += luckyRow[set] && (set >> i & 1) != 0 ? 1 : 0;
        }
        return sum;
    }

    public int pivots(int i) {
        if (!isLine(i)) {
            return -1;
        }
        return state[i] != 0 ? -2 : pivotsOf(i);
    }

    private int pivotsOf(int i) {
        int sum = 0;
        for (int set = 0; set < luckyRow.length; set++) {
            sum += (set >> i & 1) != 0 && luckyRow[set] && !luckyRow[set & ~(1 << i)] ? 1 : 0;
        }
        return sum;
    }

    public int needed() {
        int common = openBits();
        boolean any = false;
        for (int set = 0; set < luckyRow.length; set++) {
            if (luckyRow[set]) {
                any = true;
                common &= set;
            }
        }
        return any ? common : 0;
    }

    public int trees() {
        return treesOf(state, placesIn(state)).size();
    }

    public int treesWith(int i) {
        if (!isLine(i)) {
            return -1;
        }
        if (state[i] != 0) {
            return -2;
        }
        int sum = 0;
        for (int tree : treesOf(state, placesIn(state))) {
            sum += tree >> i & 1;
        }
        return sum;
    }

    public int idle(int i) {
        if (!isLine(i)) {
            return -1;
        }
        if (state[i] != 0) {
            return -2;
        }
        int is = outcomeOf(state);
        return outcomeOf(with(state, i, 1)) == is && outcomeOf(with(state, i, 2)) == is ? 1 : 0;
    }

    public int ifLine(int i, int how) {
        if (!isLine(i) || how < 0 || how > 1) {
            return -1;
        }
        return state[i] != 0 ? -2 : outcomeOf(with(state, i, how + 1));
    }

    /** A net of its own with lines more, so that nothing known is mixed up. */
    private Model withMore(int a, int b, int times) {
        Model other = new Model();
        other.knots = knots;
        other.endA = endA;
        other.endB = endB;
        other.lines.addAll(lines);
        other.state = java.util.Arrays.copyOf(state, state.length + times);
        for (int i = 0; i < times; i++) {
            other.lines.add(new int[] {a, b});
        }
        return other;
    }

    public int ifMore(int a, int b) {
        return !isKnot(a) || !isKnot(b) || a == b ? -1 : withMore(a, b, 1).outcome();
    }

    public int ifEnds(int a, int b) {
        if (!isKnot(a) || !isKnot(b) || a == b) {
            return -1;
        }
        Model other = withMore(a, b, 0);
        other.endA = a;
        other.endB = b;
        return other.outcome();
    }

    public int lacks() {
        for (int more = 0; more < 3; more++) {
            Model other = withMore(endA, endB, more);
            if (other.safe(other.state)) {
                return more;
            }
        }
        throw new IllegalStateException("lacks more than two");
    }

    private int cutAnswerIn(int[] at, int i) {
        int[] then = with(at, i, 1);
        for (int j : open(then)) {
            if (!keen(with(then, j, 2))) {
                return j;
            }
        }
        return -2;
    }

    public int cutAnswer(int i) {
        if (!isLine(i)) {
            return -1;
        }
        if (state[i] != 0 || holder(state) != 2 || holder(with(state, i, 1)) == 0) {
            return -2;
        }
        return cutAnswerIn(state, i);
    }

    private void verifyCut(int[] at, int[] sums) {
        if (holder(at) != 2) {
            sums[0]++;
            sums[1] += holder(at) == 1 ? 1 : 0;
            return;
        }
        for (int i : open(at)) {
            int[] then = with(at, i, 1);
            if (holder(then) == 2) {
                then = with(then, cutAnswerIn(at, i), 2);
            }
            verifyCut(then, sums);
        }
    }

    public int verifiedForCut(int what) {
        if (what < 0 || what > 1) {
            return -1;
        }
        if (inState(0) > 10 || keen(state)) {
            return -2;
        }
        int[] sums = new int[2];
        verifyCut(state, sums);
        return sums[what];
    }

    public int set(int k) {
        if (k < 0) {
            return -1;
        }
        int left = k;
        for (int set : setsOf(state)) {
            if (pairOn(state, set) != null && left-- == 0) {
                return set;
            }
        }
        return -2;
    }

    public int alike(int i, int j) {
        if (!isLine(i) || !isLine(j)) {
            return -1;
        }
        if (state[i] != 0 || state[j] != 0) {
            return -2;
        }
        if (i == j) {
            return 1;
        }
        for (int set = 0; set < luckyRow.length; set++) {
            if ((set & ~openBits()) == 0 && (set >> i & 1) != (set >> j & 1)
                    && luckyRow[set] != luckyRow[set ^ 1 << i ^ 1 << j]) {
                return 0;
            }
        }
        return 1;
    }

    public int strong(int k) {
        if (k < 0) {
            return -1;
        }
        List<Integer> open = open(state);
        open.sort((a, b) -> pivotsOf(a) != pivotsOf(b) ? pivotsOf(b) - pivotsOf(a) : a - b);
        return k < open.size() ? open.get(k) : -2;
    }

    private boolean isForest(int set) {
        int[] head = new int[knots];
        for (int k = 0; k < knots; k++) {
            head[k] = placeIn(state, k);
        }
        for (int i = 0; i < lines.size(); i++) {
            if ((set >> i & 1) != 0) {
                int a = head[lines.get(i)[0]];
                int b = head[lines.get(i)[1]];
                if (a == b) {
                    return false;
                }
                for (int k = 0; k < knots; k++) {
                    head[k] = head[k] == a ? b : head[k];
                }
            }
        }
        return true;
    }

    public int forests(int what) {
        if (what < 0 || what > 2) {
            return -1;
        }
        List<Integer> all = new ArrayList<>();
        for (int set = 0; set < 1 << lines.size(); set++) {
            if ((set & ~openBits()) == 0 && isForest(set)) {
                all.add(set);
            }
        }
        int most = -1;
        int first = 0;
        int second = 0;
        for (int a : all) {
            for (int b : all) {
                if ((a & b) == 0 && Integer.bitCount(a) + Integer.bitCount(b) > most) {
                    most = Integer.bitCount(a) + Integer.bitCount(b);
                    first = a;
                    second = b;
                }
            }
        }
        return what == 0 ? most : what == 1 ? first : second;
    }

    private java.math.BigInteger x;

    private int drawnOf(List<Integer> open) {
        x = x.multiply(java.math.BigInteger.valueOf(1103515245)).add(java.math.BigInteger.valueOf(12345))
                .mod(java.math.BigInteger.valueOf(2147483648L));
        return open.get(x.divide(java.math.BigInteger.valueOf(65536)).intValue() % open.size());
    }

    public int chance(int seed, int n) {
        if (seed < 0 || n < 1 || n > 50) {
            return -1;
        }
        x = java.math.BigInteger.valueOf(seed);
        int won = 0;
        for (int game = 0; game < n; game++) {
            int[] at = state.clone();
            int who = mover;
            while (holder(at) == 2) {
                at[drawnOf(open(at))] = who == 0 ? 1 : 2;
                who = 1 - who;
            }
            won += holder(at) == 0 ? 1 : 0;
        }
        return won;
    }

    public int duel(int seed) {
        if (seed < 0) {
            return -1;
        }
        if (pairOf(state) == null) {
            return -2;
        }
        x = java.math.BigInteger.valueOf(seed);
        int[] at = state.clone();
        int moves = 0;
        while (holder(at) == 2) {
            int i = drawnOf(open(at));
            int reply = answerIn(at, i);
            at[i] = 2;
            moves++;
            if (holder(at) == 2) {
                at[reply] = 1;
                moves++;
            }
        }
        return moves;
    }

    public int count(int what) {
        switch (what) {
            case 0: return knots;
            case 1: return lines.size();
            case 2: return endA;
            case 3: return endB;
            case 4: return told;
            case 5: return 0;
            default: return -1;
        }
    }
}
