import java.util.Arrays;
import java.util.NoSuchElementException;

/**
 * A switching game on a net: JOIN joins lines till two ends hang together, CUT
 * cuts lines till they can't any more.
 *
 * A position is two sets of lines (bits), those JOINED and those GONE, so that
 * what would be, were a line gone or joined, is asked of other sets and the
 * object itself stays as it is. All rows are made once, with the object.
 */
public final class SwitchGame {
    public static final int NONE = -1;

    private static final int MISSING = -2;
    private static final int BARRED = -3;
    private static final int PASS_UNDONE = -2;
    private static final int PASS_WRITTEN = -3;

    private static final int JOIN = 0;
    private static final int CUT = 1;
    private static final int NOBODY = 2;

    private static final int LEAST_KNOTS = 2;
    private static final int MOST_KNOTS = 8;
    private static final int MOST_LINES = 14;
    private static final int MOST_BYTES = 600;
    private static final int MOST_UNDONE = 40;
    private static final int MOST_GAMES = 50;
    /** Above so many OPEN lines nothing is gone through by all positions. */
    private static final int FEW_OPEN = 10;

    private final byte[] tape = new byte[MOST_BYTES];
    private final Net net = new Net();
    private final Net draft = new Net();
    private final Reader reader = new Reader(tape, draft);
    private final Forests forest = new Forests();
    private final Judge judge = new Judge(net, forest);
    private final Pairs pairs = new Pairs(net, forest);
    private final LuckySets luckySets = new LuckySets(net);
    private final TreeTally treeTally = new TreeTally(net);
    private final Games games = new Games(net, judge, pairs);
    private final History history = new History();
    private int tapeLength = 0;
    private int joined = 0;
    private int gone = 0;
    private int mover = CUT;
    private int faultNumber = 0;
    private int faultPlace = NONE;

    public SwitchGame() {
    }

    public int feed(int a, int b, int c, int d, int e) {
        if (tapeLength + 20 > MOST_BYTES) {
            return NONE;
        }
        feedNumber(a);
        feedNumber(b);
        feedNumber(c);
        feedNumber(d);
        feedNumber(e);
        return tapeLength;
    }

    public int text(int n) {
        if (n < 0 || n > tapeLength) {
            return MISSING;
        }
        tapeLength = 0;
        boolean read = reader.read(n);
        faultNumber = reader.faultNumber;
        faultPlace = reader.faultPlace;
        if (!read) {
            return NONE;
        }
        beginDraft();
        return net.told;
    }

    public int fault(int what) {
        switch (what) {
            case 0: return faultNumber;
            case 1: return faultPlace;
            default: return NONE;
        }
    }

    public int line(int i, int what) throws IndexOutOfBoundsException, NoSuchElementException {
        if (!net.isLine(i)) {
            throw new IndexOutOfBoundsException("no such line");
        }
        switch (what) {
            case 0: return net.from[i];
            case 1: return net.to[i];
            case 2: return stateOf(i);
            default: throw new NoSuchElementException("no such what");
        }
    }

    public int place(int knot) {
        return net.isKnot(knot) ? Places.numberOf(net.placesBy(joined), knot) : NONE;
    }

    public int reaches(int knot, int what) {
        if (!net.isKnot(knot) || what < 0 || what > 1) {
            return NONE;
        }
        int places = net.placesBy(what == 0 ? joined : net.all() & ~gone);
        return Places.knotsOf(places, Places.numberOf(places, knot), net.knots);
    }

    public int move(int i) {
        if (!net.isLine(i)) {
            return NONE;
        }
        if (!isOpen(i)) {
            return MISSING;
        }
        if (isOver()) {
            return BARRED;
        }
        if (mover == JOIN) {
            joined |= 1 << i;
        } else {
            gone |= 1 << i;
        }
        turn(i);
        return net.holder(joined, gone);
    }

    public boolean pass() {
        if (isOver()) {
            return false;
        }
        turn(NONE);
        return true;
    }

    public int undo() {
        if (history.size == 0) {
            return NONE;
        }
        int i = history.takeLatest();
        mover = 1 - mover;
        if (!net.isLine(i)) {
            return PASS_UNDONE;
        }
        joined &= ~(1 << i);
        gone &= ~(1 << i);
        return i;
    }

    public int written(int k) {
        if (k < 0) {
            return NONE;
        }
        if (k >= history.size) {
            return MISSING;
        }
        int i = history.entry(k);
        return i == NONE ? PASS_WRITTEN : i;
    }

    public int now(int what) {
        switch (what) {
            case 0: return mover;
            case 1: return net.holder(joined, gone);
            case 2: return Integer.bitCount(open());
            case 3: return Integer.bitCount(joined);
            case 4: return Integer.bitCount(gone);
            case 5: return Integer.bitCount(Places.heads(net.placesBy(joined), net.knots));
            case 6: return history.size;
            default: return NONE;
        }
    }

    public int pair(int what) {
        if (what < 0 || what > 3) {
            return NONE;
        }
        if (!pairs.find(joined, gone)) {
            return MISSING;
        }
        switch (what) {
            case 0: return pairs.members;
            case 1: return pairs.treeA;
            case 2: return pairs.treeB;
            default: return Integer.bitCount(pairs.members);
        }
    }

    public int outcome() {
        return Judge.outcomeBy(judge.lacking(joined, gone));
    }

    public int wins(int who, int k) {
        if (who < JOIN || who > CUT || k < 0) {
            return NONE;
        }
        return isOver() ? MISSING : nthWinning(who, k);
    }

    public int answer(int i) {
        if (!net.isLine(i)) {
            return NONE;
        }
        if (!isOpen(i)) {
            return MISSING;
        }
        return pairs.find(joined, gone) ? pairs.reply(i) : BARRED;
    }

    public int exchange(int i) {
        if (!net.isLine(i)) {
            return NONE;
        }
        return pairs.find(joined, gone) ? pairs.swapFor(i) : BARRED;
    }

    public int played(int what) {
        return what < NONE ? BARRED : games.playOn(joined, gone, mover, what);
    }

    public int verified(int what) {
        if (what < 0 || what > 1) {
            return NONE;
        }
        if (!isSmall() || !pairs.find(joined, gone)) {
            return MISSING;
        }
        return games.goThrough(CUT, joined, gone, what);
    }

    public int full(int who) {
        if (who < JOIN || who > CUT) {
            return NONE;
        }
        if (!isSmall()) {
            return MISSING;
        }
        switch (judge.lacking(joined, gone)) {
            case 0: return JOIN;
            case 1: return who;
            default: return CUT;
        }
    }

    public int positions(int what) {
        if (what < 0 || what > 3) {
            return NONE;
        }
        if (!isSmall()) {
            return MISSING;
        }
        luckySets.lookAt(joined, gone);
        switch (what) {
            case 0: return luckySets.positionsOf(JOIN);
            case 1: return luckySets.positionsOf(CUT);
            case 2: return luckySets.positionsOfNobody();
            default: return luckySets.allPositions();
        }
    }

    public int wall(int what) {
        if (what < 0 || what > 1) {
            return NONE;
        }
        if (net.holder(joined, gone) == JOIN) {
            return MISSING;
        }
        luckySets.lookAt(joined, gone);
        int lines = luckySets.least(CUT);
        return what == 0 ? Integer.bitCount(lines) : lines;
    }

    public int road(int what) {
        if (what < 0 || what > 1) {
            return NONE;
        }
        if (net.holder(joined, gone) == CUT) {
            return MISSING;
        }
        luckySets.lookAt(joined, gone);
        int lines = luckySets.least(JOIN);
        return what == 0 ? Integer.bitCount(lines) : lines;
    }

    public int lucky(int k) {
        return setsOf(JOIN, k);
    }

    public int luckyWith(int i) {
        if (!net.isLine(i)) {
            return NONE;
        }
        if (!isOpen(i)) {
            return MISSING;
        }
        luckySets.lookAt(joined, gone);
        return luckySets.having(i);
    }

    public int trees() {
        return treeTally.tally(joined, gone);
    }

    public int treesWith(int i) {
        if (!net.isLine(i)) {
            return NONE;
        }
        if (!isOpen(i)) {
            return MISSING;
        }
        return treeTally.tally(joined, gone) - treeTally.tally(joined, gone | 1 << i);
    }

    public int idle(int i) {
        if (!net.isLine(i)) {
            return NONE;
        }
        if (!isOpen(i)) {
            return MISSING;
        }
        int lacking = judge.lacking(joined, gone);
        boolean same = judge.lacking(joined | 1 << i, gone) == lacking
                && judge.lacking(joined, gone | 1 << i) == lacking;
        return same ? 1 : 0;
    }

    public int ifLine(int i, int how) {
        if (!net.isLine(i) || how < 0 || how > 1) {
            return NONE;
        }
        if (!isOpen(i)) {
            return MISSING;
        }
        int bit = 1 << i;
        int lacking = how == 0 ? judge.lacking(joined | bit, gone) : judge.lacking(joined, gone | bit);
        return Judge.outcomeBy(lacking);
    }

    public int ifMore(int a, int b) {
        if (!areTwoKnots(a, b)) {
            return NONE;
        }
        return Judge.outcomeBy(judge.lackingWithMore(joined, gone, a, b));
    }

    public int ifEnds(int a, int b) {
        if (!areTwoKnots(a, b)) {
            return NONE;
        }
        return Judge.outcomeBy(judge.lackingBetween(joined, gone, a, b));
    }

    public int lacks() {
        return judge.lacking(joined, gone);
    }

    public int cutAnswer(int i) {
        if (!net.isLine(i)) {
            return NONE;
        }
        if (!isOpen(i) || isOver()) {
            return MISSING;
        }
        return judge.winningFrom(0, CUT, joined | 1 << i, gone);
    }

    public int verifiedForCut(int what) {
        if (what < 0 || what > 1) {
            return NONE;
        }
        if (!isSmall() || judge.lacking(joined, gone) < 2) {
            return MISSING;
        }
        return games.goThrough(JOIN, joined, gone, what);
    }

    public int pivots(int i) {
        if (!net.isLine(i)) {
            return NONE;
        }
        if (!isOpen(i)) {
            return MISSING;
        }
        luckySets.lookAt(joined, gone);
        return luckySets.turnedBy(i);
    }

    public int needed() {
        luckySets.lookAt(joined, gone);
        return luckySets.inAll();
    }

    public int walls(int k) {
        return setsOf(CUT, k);
    }

    public int set(int k) {
        return k < 0 ? NONE : pairs.nthSet(joined, gone, k);
    }

    public int alike(int i, int j) {
        if (!net.isLine(i) || !net.isLine(j)) {
            return NONE;
        }
        if (!isOpen(i) || !isOpen(j)) {
            return MISSING;
        }
        luckySets.lookAt(joined, gone);
        return i == j || luckySets.areAlike(i, j) ? 1 : 0;
    }

    public int strong(int k) {
        if (k < 0) {
            return NONE;
        }
        luckySets.lookAt(joined, gone);
        return luckySets.strongest(k);
    }

    public int forests(int what) {
        if (what < 0 || what > 2) {
            return NONE;
        }
        judge.bringOpen(net.placesBy(joined), open());
        if (what == 0) {
            return forest.total();
        }
        forest.lower();
        return what == 1 ? forest.first : forest.second;
    }

    public int duel(int seed) {
        if (seed < 0) {
            return NONE;
        }
        return pairs.find(joined, gone) ? games.movesOfDuel(joined, gone, seed) : MISSING;
    }

    public int chance(int seed, int n) {
        if (seed < 0 || n < 1 || n > MOST_GAMES) {
            return NONE;
        }
        return games.joinedByChance(joined, gone, mover, seed, n);
    }

    public int count(int what) {
        switch (what) {
            case 0: return net.knots;
            case 1: return net.lines;
            case 2: return net.endA;
            case 3: return net.endB;
            case 4: return net.told;
            case 5: return tapeLength;
            default: return NONE;
        }
    }

    private void feedNumber(int number) {
        for (int shift = 24; shift >= 0; shift -= 8) {
            if (tapeLength >= 0 && tapeLength < tape.length) {
                tape[tapeLength] = (byte) (number >>> shift);
                tapeLength++;
            }
        }
    }

    private void beginDraft() {
        net.copy(draft);
        joined = net.joinedAtFirst;
        gone = net.goneAtFirst;
        mover = net.moverAtFirst;
        history.forgetAll();
        luckySets.forgetAll();
    }

    private void turn(int entry) {
        history.add(entry);
        mover = 1 - mover;
    }

    private int open() {
        return net.openOf(joined, gone);
    }

    private boolean isOpen(int i) {
        return has(open(), i);
    }

    private boolean isOver() {
        return net.holder(joined, gone) != NOBODY;
    }

    private boolean isSmall() {
        return Integer.bitCount(open()) <= FEW_OPEN;
    }

    private boolean areTwoKnots(int a, int b) {
        return net.isKnot(a) && net.isKnot(b) && a != b;
    }

    private int stateOf(int i) {
        if (isOpen(i)) {
            return 0;
        }
        return has(joined, i) ? 1 : 2;
    }

    private int nthWinning(int who, int k) {
        int i = judge.winningFrom(0, who, joined, gone);
        for (int left = Math.min(k, MOST_LINES); left > 0 && i >= 0; left--) {
            i = judge.winningFrom(i + 1, who, joined, gone);
        }
        return i;
    }

    /** LUCKY sets (who JOIN) or WALLS (who CUT) of k lines, of any number with NONE. */
    private int setsOf(int who, int k) {
        luckySets.lookAt(joined, gone);
        if (k < NONE || k > luckySets.size) {
            return MISSING;
        }
        return k == NONE ? luckySets.total(who) : luckySets.sized(who, k);
    }

    private static boolean has(int lines, int i) {
        return (lines >>> i & 1) != 0;
    }

    private static int nth(int lines, int k) {
        int left = k;
        for (int i = 0; i < MOST_LINES; i++) {
            if (has(lines, i)) {
                if (left == 0) {
                    return i;
                }
                left--;
            }
        }
        return MISSING;
    }

    /**
     * The PLACES of all KNOTS in one number: four bits for each KNOT, the number
     * of its PLACE. So a search can go back to earlier PLACES at no cost.
     */
    private static final class Places {
        private static final int APART = 0x76543210;
        private static final int EACH = 0x11111111;

        private Places() {
        }

        private static int numberOf(int places, int knot) {
            return places >>> (4 * knot) & 7;
        }

        private static boolean together(int places, int a, int b) {
            return numberOf(places, a) == numberOf(places, b);
        }

        private static int merged(int places, int a, int b) {
            int one = numberOf(places, a);
            int two = numberOf(places, b);
            if (one == two) {
                return places;
            }
            int high = Math.max(one, two);
            int apart = places ^ high * EACH;
            int others = (apart | apart >>> 1 | apart >>> 2) & EACH;
            return places ^ (others ^ EACH) * (one ^ two);
        }

        private static int knotsOf(int places, int number, int knots) {
            int bits = 0;
            for (int knot = 0; knot < knots && knot < MOST_KNOTS; knot++) {
                if (numberOf(places, knot) == number) {
                    bits |= 1 << knot;
                }
            }
            return bits;
        }

        /** The numbers of all PLACES, as bits. */
        private static int heads(int places, int knots) {
            int bits = 0;
            for (int knot = 0; knot < knots && knot < MOST_KNOTS; knot++) {
                bits |= 1 << numberOf(places, knot);
            }
            return bits;
        }
    }

    /** What a text tells: KNOTS, ends, LINES and how they stand at first. */
    private static final class Net {
        private final int[] from = new int[MOST_LINES];
        private final int[] to = new int[MOST_LINES];
        private int knots;
        private int endA;
        private int endB;
        private int lines;
        private int told;
        private int joinedAtFirst;
        private int goneAtFirst;
        private int moverAtFirst;

        private Net() {
            wipe();
        }

        private void wipe() {
            knots = LEAST_KNOTS;
            endA = 0;
            endB = LEAST_KNOTS - 1;
            lines = 0;
            told = 0;
            joinedAtFirst = 0;
            goneAtFirst = 0;
            moverAtFirst = CUT;
        }

        private void copy(Net other) {
            System.arraycopy(other.from, 0, from, 0, MOST_LINES);
            System.arraycopy(other.to, 0, to, 0, MOST_LINES);
            knots = other.knots;
            endA = other.endA;
            endB = other.endB;
            lines = other.lines;
            told = other.told;
            joinedAtFirst = other.joinedAtFirst;
            goneAtFirst = other.goneAtFirst;
            moverAtFirst = other.moverAtFirst;
        }

        private void addLine(int a, int b) {
            if (lines >= 0 && lines < MOST_LINES) {
                from[lines] = a;
                to[lines] = b;
                lines++;
            }
        }

        private boolean isKnot(int knot) {
            return knot >= 0 && knot < knots;
        }

        private boolean isLine(int i) {
            return i >= 0 && i < lines && i < MOST_LINES;
        }

        private int all() {
            return (1 << lines) - 1;
        }

        private int openOf(int joined, int gone) {
            return all() & ~(joined | gone);
        }

        private int withLine(int places, int i) {
            return isLine(i) ? Places.merged(places, from[i], to[i]) : places;
        }

        private int placesBy(int chosen) {
            int places = Places.APART;
            for (int i = 0; i < lines && i < MOST_LINES; i++) {
                if (has(chosen, i)) {
                    places = Places.merged(places, from[i], to[i]);
                }
            }
            return places;
        }

        private boolean endsMeet(int places) {
            return Places.together(places, endA, endB);
        }

        /** Who HAS it: JOIN, CUT or NOBODY. */
        private int holder(int joined, int gone) {
            if (endsMeet(placesBy(joined))) {
                return JOIN;
            }
            return endsMeet(placesBy(all() & ~gone)) ? NOBODY : CUT;
        }
    }

    /** Reads a text into a draft, so that a text with a FAULT changes nothing else. */
    private static final class Reader {
        private static final int END = 0;
        private static final int WORD = 1;
        private static final int NUMBER = 2;
        private static final int STOP = 3;
        private static final int STRANGE = 4;

        private static final int NO_WORD = 0;
        private static final int KNOTS_WORD = 1;
        private static final int ENDS_WORD = 2;
        private static final int LINE_WORD = 3;
        private static final int JOINED_WORD = 4;
        private static final int GONE_WORD = 5;
        private static final int FIRST_WORD = 6;
        private static final int JOIN_WORD = 7;
        private static final int CUT_WORD = 8;

        private static final int CANT_STAND = 1;
        private static final int TOO_MUCH = 2;
        private static final int TOLD_ALREADY = 3;

        /** Above any number that a text may tell: digits behind it change nothing. */
        private static final int BIG = 1000000;

        private final byte[] tape;
        private final Net draft;
        private int length = 0;
        private int at = 0;
        private int kind = END;
        private int start = 0;
        private int value = 0;
        private int firstKnot = 0;
        private boolean knotsTold = false;
        private boolean endsTold = false;
        private boolean firstTold = false;
        private int faultNumber = 0;
        private int faultPlace = NONE;

        private Reader(byte[] tape, Net draft) {
            this.tape = tape;
            this.draft = draft;
        }

        private boolean read(int n) {
            length = Math.min(n, tape.length);
            at = 0;
            knotsTold = false;
            endsTold = false;
            firstTold = false;
            faultNumber = 0;
            faultPlace = NONE;
            draft.wipe();
            step();
            for (int i = 0; i < MOST_BYTES && kind != END; i++) {
                if (!sentence() || !stop()) {
                    return false;
                }
                draft.told++;
            }
            return true;
        }

        private boolean refuse(int number) {
            faultNumber = number;
            faultPlace = start;
            return false;
        }

        private boolean stop() {
            if (kind != STOP) {
                return refuse(CANT_STAND);
            }
            step();
            return true;
        }

        private boolean sentence() {
            int word = word();
            if (!knotsTold && word != KNOTS_WORD) {
                return refuse(CANT_STAND);
            }
            switch (word) {
                case KNOTS_WORD: return knotsSentence();
                case ENDS_WORD: return endsSentence();
                case LINE_WORD: return lineSentence();
                case JOINED_WORD: return standSentence(true);
                case GONE_WORD: return standSentence(false);
                case FIRST_WORD: return firstSentence();
                default: return refuse(CANT_STAND);
            }
        }

        private boolean knotsSentence() {
            if (knotsTold) {
                return refuse(TOLD_ALREADY);
            }
            step();
            if (kind != NUMBER) {
                return refuse(CANT_STAND);
            }
            if (value < LEAST_KNOTS || value > MOST_KNOTS) {
                return refuse(TOO_MUCH);
            }
            knotsTold = true;
            draft.knots = value;
            draft.endB = value - 1;
            step();
            return true;
        }

        private boolean endsSentence() {
            if (endsTold) {
                return refuse(TOLD_ALREADY);
            }
            endsTold = true;
            if (!twoKnots()) {
                return false;
            }
            draft.endA = firstKnot;
            draft.endB = value;
            step();
            return true;
        }

        private boolean lineSentence() {
            if (draft.lines >= MOST_LINES) {
                return refuse(TOO_MUCH);
            }
            if (!twoKnots()) {
                return false;
            }
            draft.addLine(firstKnot, value);
            step();
            return true;
        }

        private boolean twoKnots() {
            step();
            if (kind != NUMBER || !draft.isKnot(value)) {
                return refuse(CANT_STAND);
            }
            firstKnot = value;
            step();
            if (kind != NUMBER || !draft.isKnot(value)) {
                return refuse(CANT_STAND);
            }
            return value != firstKnot || refuse(TOLD_ALREADY);
        }

        private boolean standSentence(boolean isJoined) {
            step();
            if (kind != NUMBER || !draft.isLine(value)) {
                return refuse(CANT_STAND);
            }
            if (has(draft.joinedAtFirst | draft.goneAtFirst, value)) {
                return refuse(TOLD_ALREADY);
            }
            if (isJoined) {
                draft.joinedAtFirst |= 1 << value;
            } else {
                draft.goneAtFirst |= 1 << value;
            }
            step();
            return true;
        }

        private boolean firstSentence() {
            if (firstTold) {
                return refuse(TOLD_ALREADY);
            }
            firstTold = true;
            step();
            int word = word();
            if (word != JOIN_WORD && word != CUT_WORD) {
                return refuse(CANT_STAND);
            }
            draft.moverAtFirst = word == JOIN_WORD ? JOIN : CUT;
            step();
            return true;
        }

        /** Goes on to the next token: bytes from start up to at. */
        private void step() {
            while (at < length && isBlank(byteAt(at))) {
                at++;
            }
            start = at;
            if (at >= length) {
                kind = END;
            } else if (isLetter(byteAt(at))) {
                kind = WORD;
                while (at < length && isLetter(byteAt(at))) {
                    at++;
                }
            } else if (isDigit(byteAt(at))) {
                takeNumber();
            } else {
                kind = byteAt(at) == ';' ? STOP : STRANGE;
                at++;
            }
        }

        private void takeNumber() {
            kind = NUMBER;
            value = 0;
            while (at < length && isDigit(byteAt(at))) {
                if (value < BIG) {
                    value = value * 10 + (byteAt(at) - '0');
                }
                at++;
            }
        }

        /** Which word the token is, NO_WORD for none of them. */
        private int word() {
            if (kind != WORD) {
                return NO_WORD;
            }
            if (spells("knots")) {
                return KNOTS_WORD;
            }
            if (spells("ends")) {
                return ENDS_WORD;
            }
            if (spells("line")) {
                return LINE_WORD;
            }
            if (spells("joined")) {
                return JOINED_WORD;
            }
            if (spells("gone")) {
                return GONE_WORD;
            }
            if (spells("first")) {
                return FIRST_WORD;
            }
            if (spells("join")) {
                return JOIN_WORD;
            }
            return spells("cut") ? CUT_WORD : NO_WORD;
        }

        private boolean spells(String word) {
            if (at - start != word.length()) {
                return false;
            }
            for (int i = 0; i < word.length(); i++) {
                if (byteAt(start + i) != word.charAt(i)) {
                    return false;
                }
            }
            return true;
        }

        private int byteAt(int index) {
            return index >= 0 && index < tape.length ? tape[index] & 255 : 0;
        }

        private static boolean isBlank(int sign) {
            return sign == 10 || sign == 32;
        }

        private static boolean isLetter(int sign) {
            return sign >= 'a' && sign <= 'z';
        }

        private static boolean isDigit(int sign) {
            return sign >= '0' && sign <= '9';
        }
    }

    /**
     * Two forests that share no line, grown to the most lines of both together.
     * A line that fits neither drives others from one forest into the other.
     */
    private static final class Forests {
        /** The net's lines, one more, and two between the ends. */
        private static final int MOST = MOST_LINES + 3;
        private static final int MORE = MOST_LINES;
        private static final int END_LINE = MOST_LINES + 1;
        private static final int OTHER_END_LINE = MOST_LINES + 2;
        private static final int APART = -1;

        private final int[] left = new int[MOST];
        private final int[] right = new int[MOST];
        private final int[] cause = new int[MOST];
        private final int[] queue = new int[MOST];
        private final int[] via = new int[MOST_KNOTS];
        private int first = 0;
        private int second = 0;
        private int tried = 0;
        private int barredFromFirst = 0;

        private Forests() {
        }

        private void lay(int i, int a, int b) {
            if (i >= 0 && i < MOST) {
                left[i] = a & 7;
                right[i] = b & 7;
            }
        }

        private void begin() {
            first = 0;
            second = 0;
            tried = 0;
            barredFromFirst = 0;
        }

        private int total() {
            return Integer.bitCount(first) + Integer.bitCount(second);
        }

        private boolean isInside(int i, int set) {
            if (i < 0 || i >= MOST || left[i] == right[i]) {
                return false;
            }
            return (set >>> left[i] & set >>> right[i] & 1) != 0;
        }

        /** Whether both forests together can have a line more, x: then they have it. */
        private boolean bring(int x) {
            if (x < 0 || x >= MOST) {
                return false;
            }
            tried |= 1 << x;
            queue[0] = x;
            cause[x] = NONE;
            int seen = 1 << x;
            int size = 1;
            for (int head = 0; head < size && head < MOST; head++) {
                int y = queue[head];
                int ring = has(first | barredFromFirst, y) ? 0 : ring(first, y);
                if (ring == APART) {
                    shift(y, true);
                    return true;
                }
                int otherRing = has(second, y) ? 0 : ring(second, y);
                if (otherRing == APART) {
                    shift(y, false);
                    return true;
                }
                int fresh = (ring | otherRing) & ~seen;
                seen |= fresh;
                size = driven(fresh, y, size);
            }
            return false;
        }

        /** Lines that y could drive out stand behind the queue: how many it has then. */
        private int driven(int fresh, int y, int size) {
            int end = size;
            for (int i = 0; i < MOST; i++) {
                if ((fresh >>> i & 1) != 0 && end >= 0 && end < MOST) {
                    cause[i] = y;
                    queue[end] = i;
                    end++;
                }
            }
            return end;
        }

        /** y goes into a forest, what drove it takes the room that it leaves, and so on. */
        private void shift(int y, boolean intoFirst) {
            int z = y;
            boolean enters = intoFirst;
            for (int step = 0; step < MOST && z >= 0 && z < MOST; step++) {
                int bit = 1 << z;
                boolean leaves = (first & bit) != 0;
                first = enters ? first | bit : first & ~bit;
                second = enters ? second & ~bit : second | bit;
                enters = leaves;
                z = cause[z];
            }
        }

        /** The lines of a forest that make a ring with x, or APART. */
        private int ring(int forest, int x) {
            if (x < 0 || x >= MOST) {
                return 0;
            }
            int goal = 1 << right[x];
            int seen = 1 << left[x];
            for (int round = 0; round < MOST_KNOTS && (seen & goal) == 0; round++) {
                int before = seen;
                for (int i = 0; i < MOST; i++) {
                    int reached = (forest >>> i & 1) != 0 ? 1 << left[i] ^ 1 << right[i] : 0;
                    if ((reached & seen) != 0 && (reached & ~seen) != 0) {
                        int place = (seen >>> left[i] & 1) != 0 ? right[i] : left[i];
                        via[place & 7] = i;
                        seen |= reached;
                    }
                }
                if (seen == before) {
                    return APART;
                }
            }
            int lines = 0;
            int at = right[x];
            for (int step = 0; step < MOST_KNOTS && at != left[x]; step++) {
                int i = via[at & 7];
                if (i < 0 || i >= MOST) {
                    return APART;
                }
                lines |= 1 << i;
                at = left[i] == at ? right[i] : left[i];
            }
            return lines;
        }

        /** Of all such forests the first one least as bits, then the second. */
        private void lower() {
            for (int i = MOST - 1; i >= 0; i--) {
                barredFromFirst |= 1 << i;
                if (has(first, i)) {
                    int keptFirst = first;
                    int keptSecond = second;
                    first &= ~(1 << i);
                    if (!bringAny()) {
                        first = keptFirst;
                        second = keptSecond;
                        barredFromFirst &= ~(1 << i);
                    }
                }
            }
            second = leastForest(tried & ~first);
        }

        private boolean bringAny() {
            int spare = tried & ~(first | second);
            for (int i = 0; i < MOST; i++) {
                if (has(spare, i) && bring(i)) {
                    return true;
                }
            }
            return false;
        }

        private int leastForest(int lines) {
            int forest = 0;
            for (int i = 0; i < MOST; i++) {
                if (has(lines, i) && ring(forest, i) == APART) {
                    forest |= 1 << i;
                }
            }
            return forest;
        }
    }

    /**
     * Who wins, by how many lines more between the ends (0 .. 2) two forests on
     * the OPEN lines can still take: each is lacking for a PAIR. With 0 it is
     * SAFE, with 1 KEEN alone, with 2 not KEEN; a JOINED line never makes it
     * more, a GONE one never less, and either changes it by one at most.
     */
    private static final class Judge {
        private final Net net;
        private final Forests forest;

        private Judge(Net net, Forests forest) {
            this.net = net;
            this.forest = forest;
        }

        private static int outcomeBy(int lacking) {
            return lacking == 0 ? 0 : 3 - lacking;
        }

        private void bringOpen(int places, int open) {
            forest.begin();
            for (int i = 0; i < MOST_LINES; i++) {
                if (has(open, i) && net.isLine(i)) {
                    forest.lay(i, Places.numberOf(places, net.from[i]), Places.numberOf(places, net.to[i]));
                    forest.bring(i);
                }
            }
        }

        private int lacking(int joined, int gone) {
            return lackingBetween(joined, gone, net.endA, net.endB);
        }

        private int lackingBetween(int joined, int gone, int a, int b) {
            int places = net.placesBy(joined);
            if (Places.together(places, a, b)) {
                return 0;
            }
            bringOpen(places, net.openOf(joined, gone));
            return stillTaken(Places.numberOf(places, a), Places.numberOf(places, b));
        }

        private int lackingWithMore(int joined, int gone, int a, int b) {
            int places = net.placesBy(joined);
            if (net.endsMeet(places)) {
                return 0;
            }
            bringOpen(places, net.openOf(joined, gone));
            forest.lay(Forests.MORE, Places.numberOf(places, a), Places.numberOf(places, b));
            forest.bring(Forests.MORE);
            return stillTaken(Places.numberOf(places, net.endA), Places.numberOf(places, net.endB));
        }

        private int stillTaken(int placeA, int placeB) {
            forest.lay(Forests.END_LINE, placeA, placeB);
            forest.lay(Forests.OTHER_END_LINE, placeA, placeB);
            if (!forest.bring(Forests.END_LINE)) {
                return 0;
            }
            return forest.bring(Forests.OTHER_END_LINE) ? 2 : 1;
        }

        /** The least line, from one on, that WINS, where it isn't OVER; or MISSING. */
        private int winningFrom(int from, int who, int joined, int gone) {
            int open = net.openOf(joined, gone) & -1 << from;
            int lacking = lackingBetween(joined, gone, net.endA, net.endB);
            if (lacking != 1) {
                return (lacking == 0) == (who == JOIN) ? nth(open, 0) : MISSING;
            }
            for (int i = 0; i < MOST_LINES; i++) {
                if (has(open, i)) {
                    int joinedThen = who == JOIN ? joined | 1 << i : joined;
                    int goneThen = who == JOIN ? gone : gone | 1 << i;
                    if (lackingBetween(joinedThen, goneThen, net.endA, net.endB) == (who == JOIN ? 0 : 2)) {
                        return i;
                    }
                }
            }
            return MISSING;
        }
    }

    /** SETS that have a PAIR, and the PAIR itself with its ANSWERS and EXCHANGES. */
    private static final class Pairs {
        private final Net net;
        private final Forests forest;
        private int open = 0;
        private int members = 0;
        private int treeA = 0;
        private int treeB = 0;

        private Pairs(Net net, Forests forest) {
            this.net = net;
            this.forest = forest;
        }

        private boolean find(int joined, int gone) {
            int found = nthSet(joined, gone, 0);
            if (found < 0) {
                return false;
            }
            members = found;
            forest.lower();
            treeA = forest.first;
            treeB = forest.second;
            return true;
        }

        /** The k-th SET, the forests being left on its lines; or MISSING. */
        private int nthSet(int joined, int gone, int k) {
            int places = net.placesBy(joined);
            if (net.endsMeet(places)) {
                return MISSING;
            }
            open = net.openOf(joined, gone);
            layOpen(places);
            int ends = 1 << Places.numberOf(places, net.endA) | 1 << Places.numberOf(places, net.endB);
            int rest = Places.heads(places, net.knots) & ~ends;
            int left = k;
            for (int size = 0; size <= Integer.bitCount(rest); size++) {
                int part = 0;
                for (int turn = 0; turn < 1 << Integer.bitCount(rest); turn++) {
                    if (Integer.bitCount(part) == size && carriesTwoTrees(ends | part)) {
                        if (left == 0) {
                            return ends | part;
                        }
                        left--;
                    }
                    part = part - rest & rest;
                }
            }
            return MISSING;
        }

        private void layOpen(int places) {
            for (int i = 0; i < MOST_LINES; i++) {
                if (has(open, i) && net.isLine(i)) {
                    forest.lay(i, Places.numberOf(places, net.from[i]), Places.numberOf(places, net.to[i]));
                }
            }
        }

        private int linesInside(int set) {
            int lines = 0;
            for (int i = 0; i < MOST_LINES; i++) {
                if (has(open, i) && forest.isInside(i, set)) {
                    lines |= 1 << i;
                }
            }
            return lines;
        }

        private boolean carriesTwoTrees(int set) {
            int due = 2 * (Integer.bitCount(set) - 1);
            int lines = linesInside(set);
            if (Integer.bitCount(lines) < due) {
                return false;
            }
            forest.begin();
            for (int i = 0; i < MOST_LINES; i++) {
                if (has(lines, i)) {
                    forest.bring(i);
                }
            }
            return forest.total() == due;
        }

        private boolean links(int tree, int without, int i) {
            return forest.ring(tree & ~(1 << without), i) == Forests.APART;
        }

        /** ANSWER to an OPEN line, by the PAIR found last. */
        private int reply(int i) {
            if (!has(treeA | treeB, i)) {
                return nth(treeA | treeB, 0);
            }
            int own = has(treeA, i) ? treeA : treeB;
            int other = has(treeA, i) ? treeB : treeA;
            for (int j = 0; j < MOST_LINES; j++) {
                if (has(other, j) && links(own, i, j)) {
                    return j;
                }
            }
            return MISSING;
        }

        /** EXCHANGE of a line, by the PAIR found last; MISSING: of neither tree. */
        private int swapFor(int i) {
            if (!has(treeA | treeB, i)) {
                return MISSING;
            }
            int own = has(treeA, i) ? treeA : treeB;
            int other = has(treeA, i) ? treeB : treeA;
            for (int j = 0; j < MOST_LINES; j++) {
                if (has(other, j) && links(own, i, j) && links(other, j, i)) {
                    return j;
                }
            }
            return MISSING;
        }

        /** ANSWERS to all OPEN lines in one number, four bits each: a search finds other PAIRS meanwhile. */
        private long replies() {
            int lines = open;
            long packed = 0;
            for (int i = 0; i < MOST_LINES; i++) {
                if (has(lines, i)) {
                    packed |= (long) (reply(i) & 15) << 4 * i;
                }
            }
            return packed;
        }
    }

    /**
     * Which sets of OPEN lines are LUCKY, a bit each. The OPEN lines are numbered
     * anew from 0 on, in their order, so that sets stay in their order, too.
     */
    private static final class LuckySets {
        private static final int MOST_WORDS = 512;
        /** In bit b of entry s: whether b, of five bits, has s of them. */
        private static final int[] OF_SIZE = {
            0x00000001, 0x00010116, 0x01161668, 0x16686880, 0x68808000, 0x80000000
        };

        private final Net net;
        private final int[] words = new int[MOST_WORDS];
        private final int[] bySize = new int[MOST_LINES + 1];
        private final int[] lineAt = new int[MOST_LINES];
        private final int[] turned = new int[MOST_LINES];
        private boolean known = false;
        private int joined = 0;
        private int gone = 0;
        private int size = 0;

        private LuckySets(Net net) {
            this.net = net;
        }

        private void forgetAll() {
            known = false;
        }

        /** Makes the sets of a position, unless they are those it has. */
        private void lookAt(int joinedNow, int goneNow) {
            if (known && joined == joinedNow && gone == goneNow) {
                return;
            }
            known = true;
            joined = joinedNow;
            gone = goneNow;
            number();
            Arrays.fill(words, 0);
            mark(size, net.placesBy(joined), 0);
            tallySizes();
        }

        private void number() {
            int open = net.openOf(joined, gone);
            size = 0;
            for (int i = 0; i < MOST_LINES; i++) {
                if (has(open, i) && size < MOST_LINES) {
                    lineAt[size] = i;
                    size++;
                }
            }
        }

        /** Marks the LUCKY sets among those that have what is taken, and any lines below level. */
        private void mark(int level, int places, int taken) {
            if (net.endsMeet(places)) {
                markAll(level, taken);
                return;
            }
            int j = level - 1;
            if (j < 0 || j >= MOST_LINES) {
                return;
            }
            mark(j, places, taken);
            mark(j, net.withLine(places, lineAt[j]), taken | 1 << j);
        }

        private void markAll(int level, int taken) {
            int word = taken >>> 5;
            if (level < 5) {
                if (word < MOST_WORDS) {
                    words[word] |= (1 << (1 << level)) - 1 << (taken & 31);
                }
                return;
            }
            int end = Math.min(word + (1 << level - 5), MOST_WORDS);
            for (int w = word; w < end; w++) {
                words[w] = -1;
            }
        }

        private int wordsUsed() {
            return size <= 5 ? 1 : Math.min(1 << size - 5, MOST_WORDS);
        }

        private void tallySizes() {
            Arrays.fill(bySize, 0);
            int end = wordsUsed();
            for (int w = 0; w < end; w++) {
                int upper = Integer.bitCount(w);
                for (int s = 0; s < OF_SIZE.length; s++) {
                    if (upper + s <= MOST_LINES) {
                        bySize[upper + s] += Integer.bitCount(words[w] & OF_SIZE[s]);
                    }
                }
            }
        }

        private boolean isLucky(int numbered) {
            int word = numbered >>> 5;
            return word < MOST_WORDS && has(words[word], numbered & 31);
        }

        private int all() {
            return (1 << size) - 1;
        }

        /** Whether a set JOINED gives it to JOIN, or GONE to CUT. */
        private boolean givesIt(int who, int numbered) {
            return who == JOIN ? isLucky(numbered) : !isLucky(all() & ~numbered);
        }

        private int sized(int who, int k) {
            if (k < 0 || k > size || size > MOST_LINES) {
                return 0;
            }
            return who == JOIN ? bySize[k] : ways(size, k) - bySize[size - k];
        }

        private int total(int who) {
            int sum = 0;
            for (int k = 0; k <= size; k++) {
                sum += sized(who, k);
            }
            return sum;
        }

        private static int ways(int n, int k) {
            int value = 1;
            for (int j = 0; j < k; j++) {
                value = value * (n - j) / (j + 1);
            }
            return value;
        }

        /** In how many one HAS it: each line beside a set of his is in one of two other states. */
        private int positionsOf(int who) {
            int sum = 0;
            for (int k = 0; k <= size; k++) {
                sum += sized(who, k) << (size - k);
            }
            return sum;
        }

        private int positionsOfNobody() {
            return allPositions() - positionsOf(JOIN) - positionsOf(CUT);
        }

        private int allPositions() {
            int value = 1;
            for (int k = 0; k < size; k++) {
                value *= 3;
            }
            return value;
        }

        /** The fewest lines that give it to one, of several the least as bits. */
        private int least(int who) {
            for (int k = 0; k <= size; k++) {
                if (sized(who, k) > 0) {
                    return leastOf(who, k);
                }
            }
            return 0;
        }

        private int leastOf(int who, int k) {
            int end = 1 << size;
            for (int numbered = 0; numbered < end; numbered++) {
                if (Integer.bitCount(numbered) == k && givesIt(who, numbered)) {
                    return linesOf(numbered);
                }
            }
            return 0;
        }

        private int linesOf(int numbered) {
            int lines = 0;
            for (int j = 0; j < size && j < MOST_LINES; j++) {
                if (has(numbered, j)) {
                    lines |= 1 << lineAt[j];
                }
            }
            return lines;
        }

        private int bitOf(int line) {
            int bit = 0;
            for (int j = 0; j < size && j < MOST_LINES; j++) {
                if (lineAt[j] == line) {
                    bit = 1 << j;
                }
            }
            return bit;
        }

        private int having(int line) {
            int bit = bitOf(line);
            int sum = 0;
            int end = wordsUsed();
            for (int w = 0; w < end; w++) {
                sum += Integer.bitCount(words[w] & withBit(bit, w));
            }
            return sum;
        }

        /** Which sets of a word have a line. */
        private static int withBit(int bit, int word) {
            switch (bit) {
                case 1: return 0xAAAAAAAA;
                case 2: return 0xCCCCCCCC;
                case 4: return 0xF0F0F0F0;
                case 8: return 0xFF00FF00;
                case 16: return 0xFFFF0000;
                default: return (word << 5 & bit) != 0 ? -1 : 0;
            }
        }

        /** A set LUCKY without a line is so with it: those with it, less those without it. */
        private int turnedBy(int line) {
            return 2 * having(line) - total(JOIN);
        }

        private int inAll() {
            int numbered = 0;
            for (int j = 0; j < size; j++) {
                if (isLucky(all()) && !isLucky(all() & ~(1 << j))) {
                    numbered |= 1 << j;
                }
            }
            return linesOf(numbered);
        }

        private boolean areAlike(int i, int j) {
            int one = bitOf(i);
            int both = one | bitOf(j);
            int end = 1 << size;
            for (int numbered = 0; numbered < end; numbered++) {
                if ((numbered & both) == one && isLucky(numbered) != isLucky(numbered ^ both)) {
                    return false;
                }
            }
            return true;
        }

        /** The k-th line by how many sets it turns: so many others stand ahead of it. */
        private int strongest(int k) {
            for (int j = 0; j < size && j < MOST_LINES; j++) {
                turned[j] = turnedBy(lineAt[j]);
            }
            for (int j = 0; j < size && j < MOST_LINES; j++) {
                if (aheadOf(j) == k) {
                    return lineAt[j];
                }
            }
            return MISSING;
        }

        private int aheadOf(int j) {
            if (j < 0 || j >= MOST_LINES) {
                return NONE;
            }
            int ahead = 0;
            for (int other = 0; other < size && other < MOST_LINES; other++) {
                if (turned[other] > turned[j] || turned[other] == turned[j] && other < j) {
                    ahead++;
                }
            }
            return ahead;
        }
    }

    /** How many TREES there are, by the determinant of the net's table without PLACE 0. */
    private static final class TreeTally {
        private static final int MOST_ROWS = MOST_KNOTS - 1;

        private final Net net;
        private final long[][] table = new long[MOST_ROWS][MOST_ROWS];
        private final int[] rowOf = new int[MOST_KNOTS];
        private int size = 0;

        private TreeTally(Net net) {
            this.net = net;
        }

        private int tally(int joined, int gone) {
            int places = net.placesBy(joined);
            clear(Places.heads(places, net.knots));
            int open = net.openOf(joined, gone);
            for (int i = 0; i < MOST_LINES; i++) {
                if (has(open, i) && net.isLine(i)) {
                    enter(Places.numberOf(places, net.from[i]), Places.numberOf(places, net.to[i]));
                }
            }
            return (int) determinant();
        }

        private void clear(int heads) {
            size = 0;
            for (int place = 0; place < MOST_KNOTS; place++) {
                rowOf[place] = NONE;
                if (place > 0 && has(heads, place)) {
                    rowOf[place] = size;
                    size++;
                }
            }
            for (int row = 0; row < MOST_ROWS; row++) {
                Arrays.fill(table[row], 0);
            }
        }

        private void enter(int placeA, int placeB) {
            if (placeA == placeB) {
                return;
            }
            int a = rowOf[placeA & 7];
            int b = rowOf[placeB & 7];
            add(a, a, 1);
            add(b, b, 1);
            add(a, b, -1);
            add(b, a, -1);
        }

        private void add(int row, int column, int more) {
            if (row >= 0 && row < MOST_ROWS && column >= 0 && column < MOST_ROWS) {
                table[row][column] += more;
            }
        }

        /** Without fractions; the table has no negative side, so a 0 on the way makes it 0. */
        private long determinant() {
            long former = 1;
            for (int step = 0; step < size && step < MOST_ROWS; step++) {
                long pivot = table[step][step];
                if (pivot == 0 || former == 0) {
                    return 0;
                }
                for (int row = step + 1; row < size && row < MOST_ROWS; row++) {
                    for (int column = step + 1; column < size && column < MOST_ROWS; column++) {
                        long crossed = table[row][step] * table[step][column];
                        table[row][column] = (table[row][column] * pivot - crossed) / former;
                    }
                }
                former = pivot;
            }
            return former;
        }
    }

    /** Games played from a position, which itself stays. */
    private static final class Games {
        /** Games in the upper half of a number, those won in the lower half. */
        private static final int ONE_GAME = 1 << 16;
        private static final int WON_PART = ONE_GAME - 1;

        private final Net net;
        private final Judge judge;
        private final Pairs pairs;
        private final Memo memo = new Memo();
        private long drawn = 0;

        private Games(Net net, Judge judge, Pairs pairs) {
            this.net = net;
            this.judge = judge;
            this.pairs = pairs;
        }

        /** The line of move what, how many moves with NONE; MISSING: there are not so many. */
        private int playOn(int joinedNow, int goneNow, int moverNow, int what) {
            int joined = joinedNow;
            int gone = goneNow;
            int mover = moverNow;
            for (int moves = 0; moves <= MOST_LINES; moves++) {
                if (net.holder(joined, gone) != NOBODY) {
                    return what == NONE ? moves : MISSING;
                }
                int winning = judge.winningFrom(0, mover, joined, gone);
                int i = winning < 0 ? nth(net.openOf(joined, gone), 0) : winning;
                if (moves == what || i < 0) {
                    return i;
                }
                if (mover == JOIN) {
                    joined |= 1 << i;
                } else {
                    gone |= 1 << i;
                }
                mover = 1 - mover;
            }
            return MISSING;
        }

        /** All games where one moves first and the other one answers: how many, or how many it wins. */
        private int goThrough(int first, int joined, int gone, int what) {
            memo.clear();
            int both = first == CUT ? cutFirst(joined, gone, 0) : joinFirst(joined, gone, 0);
            return what == 0 ? both / ONE_GAME : both & WON_PART;
        }

        private int cutFirst(int joined, int gone, int depth) {
            int holder = net.holder(joined, gone);
            if (holder != NOBODY || depth > MOST_LINES) {
                return holder == JOIN ? ONE_GAME + 1 : ONE_GAME;
            }
            int known = memo.valueOf(joined, gone);
            if (known != NONE) {
                return known;
            }
            if (!pairs.find(joined, gone)) {
                return ONE_GAME;
            }
            int open = net.openOf(joined, gone);
            long replies = pairs.replies();
            int sum = 0;
            for (int i = 0; i < MOST_LINES; i++) {
                if (has(open, i)) {
                    int reply = (int) (replies >>> 4 * i) & 15;
                    sum += cutFirst(joined | 1 << reply, gone | 1 << i, depth + 1);
                }
            }
            memo.keep(joined, gone, sum);
            return sum;
        }

        private int joinFirst(int joined, int gone, int depth) {
            int holder = net.holder(joined, gone);
            if (holder != NOBODY || depth > MOST_LINES) {
                return holder == CUT ? ONE_GAME + 1 : ONE_GAME;
            }
            int known = memo.valueOf(joined, gone);
            if (known != NONE) {
                return known;
            }
            int open = net.openOf(joined, gone);
            int sum = 0;
            for (int i = 0; i < MOST_LINES; i++) {
                if (has(open, i)) {
                    int joinedThen = joined | 1 << i;
                    int reply = net.endsMeet(net.placesBy(joinedThen)) ? MISSING
                            : judge.winningFrom(0, CUT, joinedThen, gone);
                    int goneThen = reply < 0 ? gone : gone | 1 << reply;
                    sum += joinFirst(joinedThen, goneThen, depth + 1);
                }
            }
            memo.keep(joined, gone, sum);
            return sum;
        }

        /** Draws one of so many. */
        private int draw(int howMany) {
            drawn = (drawn * 1103515245L + 12345L) % 2147483648L;
            return howMany < 1 ? 0 : (int) (drawn / 65536L % howMany);
        }

        private int drawLine(int open) {
            return nth(open, draw(Integer.bitCount(open)));
        }

        private int joinedByChance(int joined, int gone, int mover, int seed, int n) {
            drawn = seed;
            int won = 0;
            for (int game = 0; game < n && game < MOST_GAMES; game++) {
                if (holderByChance(joined, gone, mover) == JOIN) {
                    won++;
                }
            }
            return won;
        }

        private int holderByChance(int joinedNow, int goneNow, int moverNow) {
            int joined = joinedNow;
            int gone = goneNow;
            int mover = moverNow;
            for (int moves = 0; moves < MOST_LINES && net.holder(joined, gone) == NOBODY; moves++) {
                int i = drawLine(net.openOf(joined, gone));
                if (mover == JOIN) {
                    joined |= 1 << i;
                } else {
                    gone |= 1 << i;
                }
                mover = 1 - mover;
            }
            return net.holder(joined, gone);
        }

        private int movesOfDuel(int joinedNow, int goneNow, int seed) {
            int joined = joinedNow;
            int gone = goneNow;
            int moves = 0;
            drawn = seed;
            for (int round = 0; round < MOST_LINES && pairs.find(joined, gone); round++) {
                int i = drawLine(net.openOf(joined, gone));
                joined |= 1 << pairs.reply(i);
                gone |= 1 << i;
                moves += 2;
            }
            return moves;
        }
    }

    /** What positions gone through have given, so that none is gone through twice. */
    private static final class Memo {
        private static final int SLOTS = 1024;
        private static final int MOST_PROBES = 64;

        private final int[] keys = new int[SLOTS];
        private final int[] values = new int[SLOTS];

        private Memo() {
        }

        private void clear() {
            Arrays.fill(keys, 0);
        }

        /** 0 stays for a free slot. */
        private static int keyOf(int joined, int gone) {
            return (joined | gone << MOST_LINES) + 1;
        }

        /** The slot of a key, or the free one for it; NONE: there is no room near it. */
        private int slotOf(int key) {
            int slot = key * 0x9E3779B1 >>> 22;
            for (int probe = 0; probe < MOST_PROBES; probe++) {
                int near = slot + probe & SLOTS - 1;
                if (keys[near] == key || keys[near] == 0) {
                    return near;
                }
            }
            return NONE;
        }

        private int valueOf(int joined, int gone) {
            int key = keyOf(joined, gone);
            int slot = slotOf(key);
            return slot >= 0 && slot < SLOTS && keys[slot] == key ? values[slot] : NONE;
        }

        private void keep(int joined, int gone, int value) {
            int slot = slotOf(keyOf(joined, gone));
            if (slot >= 0 && slot < SLOTS) {
                keys[slot] = keyOf(joined, gone);
                values[slot] = value;
            }
        }
    }

    /** The latest moves and passes (NONE), the eldest being forgotten. */
    private static final class History {
        private final int[] entries = new int[MOST_UNDONE];
        private int eldest = 0;
        private int size = 0;

        private History() {
        }

        private void forgetAll() {
            eldest = 0;
            size = 0;
        }

        private int slotOf(int k) {
            return Math.floorMod(eldest + k, MOST_UNDONE);
        }

        private void add(int entry) {
            entries[slotOf(size)] = entry;
            if (size < MOST_UNDONE) {
                size++;
            } else {
                eldest = slotOf(1);
            }
        }

        private int entry(int k) {
            return k >= 0 && k < size ? entries[slotOf(k)] : NONE;
        }

        private int takeLatest() {
            if (size == 0) {
                return NONE;
            }
            size--;
            return entries[slotOf(size)];
        }
    }
}
