/**
 * Rules that turn terms into others, and why that must come to an end.
 *
 * <p>Words in capitals (TERM, RULE, CALL, RING, TURN, STATE ..) are those of the document.
 * A TERM is held as its letters in the order in which they are written, with the place behind
 * each part beside them: so nothing here needs recursion.
 */
public final class FallingRules {
    public static final int NONE = -1, BAD = -2, NO = -3, FULL = -4;

    private static final int NOT_SO_MANY = -5;
    private static final int FAULT_AT_START = -10;
    private static final int TEXT_MOST = 120;
    private static final int BYTE_MOST = 127;
    private static final int RULES_MOST = 5;
    private static final int SIDE_MOST = 12;
    private static final int TERM_MOST = 60;
    private static final int STATES_MOST = 5;
    private static final int TURNS_MOST = 30;
    private static final int CALLS_MOST = 60;
    private static final int FIGURES = 7;
    private static final int FIGURE_MOST = 3;
    private static final int UNSOUGHT = -9;
    private static final int BOTH_UNKNOWNS = 3;
    private static final int PLAIN_WEIGHTS = 1111111;
    private static final long PRIME = 1000000007L;

    private final State now = new State();
    private final History history = new History();
    private final Reader reader = new Reader();
    private final Script script = new Script();
    private final CallBook book = new CallBook();
    private final Scales scales = new Scales();
    private final Turner turner = new Turner();
    private final Term spare = new Term(TERM_MOST);
    private final int[] figures = new int[FIGURES];
    private boolean bookIsRight;
    private boolean ringsAreWeighed;
    private int fallFound = UNSOUGHT;
    private int timesBad;
    private int timesNo;
    private int timesFull;

    public FallingRules() {
        now.whole.startAs('a');
    }

    // ---- rules

    public int type(int c) {
        if (c < 0 || c > BYTE_MOST) {
            return refuseBad();
        }
        if (reader.length >= TEXT_MOST) {
            timesFull++;
            return FULL;
        }
        reader.append(c);
        return reader.length;
    }

    public int clear() {
        int had = reader.length;
        reader.length = 0;
        return had;
    }

    public int reads() {
        int count = reader.readRules(now);
        if (count == NONE) {
            return FAULT_AT_START - reader.at;
        }
        history.keep(now);
        now.count = count;
        forgetFindings();
        return count;
    }

    public int term() {
        if (!reader.readWhole(spare)) {
            return FAULT_AT_START - reader.at;
        }
        history.keep(now);
        now.whole.copyFrom(spare);
        return now.whole.size;
    }

    public int drops(int r) {
        if (!isRule(r)) {
            return refuseBad();
        }
        history.keep(now);
        now.removeRule(r);
        forgetFindings();
        return now.count;
    }

    public int first(int r) {
        if (!isRule(r)) {
            return refuseBad();
        }
        history.keep(now);
        now.moveToFront(r);
        forgetFindings();
        return r;
    }

    public int of(int r, int what) {
        if (!isRule(r) || what < 0 || what > 5) {
            return refuseBad();
        }
        Rule rule = now.rules[r];
        switch (what) {
            case 0:
                return rule.left.size;
            case 1:
                return rule.right.size;
            case 2:
                return rule.left.letters[0];
            case 3:
                return rule.left.unknowns();
            case 4:
                return rule.right.unknowns();
            default:
                keepBookRight();
                return Long.bitCount(book.ofRule[r]);
        }
    }

    public int shown(int r, int k) {
        if (!isRule(r) || k < NONE) {
            return refuseBad();
        }
        script.writeRule(now.rules[r]);
        if (k == NONE) {
            return script.size;
        }
        return k < script.size ? script.bytes[k] : NOT_SO_MANY;
    }

    // ---- weights

    public int fall() {
        if (fallFound == UNSOUGHT) {
            fallFound = scales.leastWeights(now, book, NONE);
        }
        return fallFound;
    }

    public int weighs(int weights, int r) {
        if (!splitFigures(weights) || !isRule(r)) {
            return refuseBad();
        }
        return scales.compareSides(now.rules[r], figures);
    }

    public int weight(int weights) {
        if (!splitFigures(weights)) {
            return refuseBad();
        }
        return scales.weightLeftOver(now.whole, figures);
    }

    // ---- calls

    public int calls(int what) {
        if (what < 0 || what > 2) {
            return refuseBad();
        }
        keepBookRight();
        if (what == 0) {
            return book.count;
        }
        if (what == 1) {
            return book.rings;
        }
        weighRings();
        return book.sure ? 1 : 0;
    }

    public int call(int c, int what) {
        keepBookRight();
        if (!book.has(c) || what < 0 || what > 3) {
            return refuseBad();
        }
        switch (what) {
            case 0:
                return book.ruleOf[c];
            case 1:
                return book.partSize(now, c);
            case 2:
                return book.ringOf[c];
            default:
                return Long.bitCount(book.followers[c]);
        }
    }

    public int follows(int c, int d) {
        keepBookRight();
        if (!book.has(c) || !book.has(d)) {
            return refuseBad();
        }
        return hasBit(book.followers[c], d) ? 1 : 0;
    }

    public int lighter(int k) {
        keepBookRight();
        if (k < 0 || k >= book.rings) {
            return refuseBad();
        }
        weighRings();
        return book.lightest[k];
    }

    // ---- turned

    public int turns(int n) {
        if (n < 0 || n > TURNS_MOST) {
            return refuseBad();
        }
        history.keep(now);
        return turner.turnMany(now, now.whole, n);
    }

    public int settles() {
        spare.copyFrom(now.whole);
        int done = turner.turnMany(now, spare, TURNS_MOST);
        return turner.seek(now, spare) ? NONE : done;
    }

    public int next(int what) {
        if (what < 0 || what > 1) {
            return refuseBad();
        }
        if (!turner.seek(now, now.whole)) {
            return NONE;
        }
        return what == 0 ? turner.rule : turner.at;
    }

    public int letter(int k) {
        if (k < NONE) {
            return refuseBad();
        }
        if (k == NONE) {
            return now.whole.size;
        }
        return k < now.whole.size ? now.whole.letters[k] : NOT_SO_MANY;
    }

    // ---- what there is

    public int back() {
        if (history.count == 0) {
            timesNo++;
            return NO;
        }
        history.giveBack(now);
        forgetFindings();
        return history.count;
    }

    public int told(int what) {
        switch (what) {
            case 0:
                return timesBad;
            case 1:
                return timesNo;
            case 2:
                return timesFull;
            case 3:
                return reader.length;
            case 4:
                return now.count;
            case 5:
                return now.whole.size;
            case 6:
                return history.count;
            default:
                return refuseBad();
        }
    }

    public long digest() {
        long h = 2609;
        for (int what = 0; what <= 6; what++) {
            h = 31 * h + told(what);
        }
        for (int r = 0; r < now.count; r++) {
            for (int what = 0; what <= 5; what++) {
                h = 31 * h + of(r, what);
            }
            h = 31 * h + weighs(PLAIN_WEIGHTS, r);
        }
        for (int k = 0; k < now.whole.size; k++) {
            h = 31 * h + now.whole.letters[k];
        }
        h = 31 * h + fall();
        for (int what = 0; what <= 2; what++) {
            h = 31 * h + calls(what);
        }
        for (int c = 0; c < book.count; c++) {
            for (int what = 0; what <= 3; what++) {
                h = 31 * h + call(c, what);
            }
        }
        h = 31 * h + settles();
        h = 31 * h + next(0);
        return 31 * h + next(1);
    }

    private int refuseBad() {
        timesBad++;
        return BAD;
    }

    private boolean isRule(int r) {
        return r >= 0 && r < now.count;
    }

    /** What was found out holds for the RULES as they were. */
    private void forgetFindings() {
        bookIsRight = false;
        ringsAreWeighed = false;
        fallFound = UNSOUGHT;
    }

    private void keepBookRight() {
        if (!bookIsRight) {
            book.fillFrom(now);
            bookIsRight = true;
        }
    }

    private void weighRings() {
        if (ringsAreWeighed) {
            return;
        }
        book.sure = true;
        for (int k = 0; k < book.rings; k++) {
            book.lightest[k] = scales.leastWeights(now, book, k);
            if (book.lightest[k] == NONE) {
                book.sure = false;
            }
        }
        ringsAreWeighed = true;
    }

    /** Puts the seven figures of told WEIGHTS into the row of figures; false: they are not as told. */
    private boolean splitFigures(int weights) {
        if (weights < 0) {
            return false;
        }
        int rest = weights;
        for (int i = FIGURES - 1; i >= 0; i--) {
            figures[i] = rest % 10;
            rest /= 10;
            if (figures[i] > FIGURE_MOST) {
                return false;
            }
        }
        return rest == 0;
    }

    private static boolean hasBit(long set, int i) {
        return (set >>> i & 1L) != 0;
    }

    private static int unknownBit(int letter) {
        if (letter == 'x') {
            return 1;
        }
        return letter == 'y' ? 2 : 0;
    }

    private static boolean isUnknown(int letter) {
        return letter == 'x' || letter == 'y';
    }

    private static int partsBehind(int letter) {
        if (letter == 'g') {
            return 2;
        }
        return letter == 'f' ? 1 : 0;
    }

    /** The place of a letter in the row a, b, f, g, x, y; NONE: no letter of a TERM. */
    private static int slotOf(int letter) {
        switch (letter) {
            case 'a':
                return 0;
            case 'b':
                return 1;
            case 'f':
                return 2;
            case 'g':
                return 3;
            case 'x':
                return 4;
            case 'y':
                return 5;
            default:
                return NONE;
        }
    }

    /** A TERM: its letters from the left, and for each the place behind the part that it begins. */
    private static final class Term {
        final int[] letters;
        final int[] ends;
        int size;

        Term(int most) {
            int room = Math.max(1, most);
            letters = new int[room];
            ends = new int[room];
        }

        void startAs(int letter) {
            size = 0;
            addLetter(letter);
            findEnds();
        }

        void addLetter(int letter) {
            if (size < letters.length) {
                letters[size] = letter;
                size++;
            }
        }

        void addPart(Term from, int start) {
            if (start < 0 || start >= from.size) {
                return;
            }
            int end = from.ends[start];
            for (int i = start; i < end; i++) {
                addLetter(from.letters[i]);
            }
        }

        /** From the right, since a part's end is told by the ends of the parts within it. */
        void findEnds() {
            for (int i = size - 1; i >= 0; i--) {
                int end = i + 1;
                for (int k = partsBehind(letters[i]); k > 0 && end < size; k--) {
                    end = ends[end];
                }
                ends[i] = end;
            }
        }

        void copyFrom(Term from) {
            size = Math.min(from.size, letters.length);
            System.arraycopy(from.letters, 0, letters, 0, size);
            System.arraycopy(from.ends, 0, ends, 0, size);
        }

        int partSize(int start) {
            return start >= 0 && start < size ? ends[start] - start : 0;
        }

        boolean sameParts(int i, int j) {
            if (i < 0 || i >= size || j < 0 || j >= size || ends[i] - i != ends[j] - j) {
                return false;
            }
            int length = ends[i] - i;
            for (int k = 0; k < length; k++) {
                if (letters[i + k] != letters[j + k]) {
                    return false;
                }
            }
            return true;
        }

        int unknowns() {
            int found = 0;
            for (int i = 0; i < size; i++) {
                found |= unknownBit(letters[i]);
            }
            return found;
        }
    }

    private static final class Rule {
        final Term left = new Term(SIDE_MOST);
        final Term right = new Term(SIDE_MOST);

        void copyFrom(Rule from) {
            left.copyFrom(from.left);
            right.copyFrom(from.right);
        }
    }

    /** RULES and THE TERM. All places of the row hold a rule of their own; the first 'count' are in use. */
    private static final class State {
        final Rule[] rules = new Rule[RULES_MOST];
        final Term whole = new Term(TERM_MOST);
        int count;

        State() {
            for (int r = 0; r < RULES_MOST; r++) {
                rules[r] = new Rule();
            }
        }

        void copyFrom(State from) {
            count = from.count;
            for (int r = 0; r < count; r++) {
                rules[r].copyFrom(from.rules[r]);
            }
            whole.copyFrom(from.whole);
        }

        /** The removed rule goes behind the others, for its place to be used again. */
        void removeRule(int r) {
            Rule gone = rules[r];
            for (int i = r; i + 1 < count; i++) {
                rules[i] = rules[i + 1];
            }
            rules[count - 1] = gone;
            count--;
        }

        void moveToFront(int r) {
            Rule moved = rules[r];
            for (int i = r; i > 0; i--) {
                rules[i] = rules[i - 1];
            }
            rules[0] = moved;
        }
    }

    /** STATES to go back to, the oldest first. */
    private static final class History {
        final State[] kept = new State[STATES_MOST];
        int count;

        History() {
            for (int i = 0; i < STATES_MOST; i++) {
                kept[i] = new State();
            }
        }

        void keep(State now) {
            if (count == STATES_MOST) {
                loseOldest();
            }
            kept[count].copyFrom(now);
            count++;
        }

        void giveBack(State now) {
            count--;
            now.copyFrom(kept[count]);
        }

        private void loseOldest() {
            State oldest = kept[0];
            for (int i = 0; i + 1 < STATES_MOST; i++) {
                kept[i] = kept[i + 1];
            }
            kept[STATES_MOST - 1] = oldest;
            count--;
        }
    }

    /** THE TEXT, and how it is read: where reading fails, 'at' is the FAULT. */
    private static final class Reader {
        final int[] text = new int[TEXT_MOST];
        final int[] missing = new int[TERM_MOST];
        int length;
        int at;
        int depth;

        void append(int c) {
            if (length < TEXT_MOST) {
                text[length] = c;
                length++;
            }
        }

        /** Reads behind the rules of 'into', without counting them there: how many there would be; NONE. */
        int readRules(State into) {
            at = 0;
            for (int n = into.count; n < RULES_MOST; n++) {
                if (!readRule(into.rules[n])) {
                    return NONE;
                }
                skipBlanks();
                if (at == length) {
                    return n + 1;
                }
            }
            skipBlanks();
            return NONE;
        }

        boolean readWhole(Term into) {
            at = 0;
            if (!readTerm(into, TERM_MOST, BOTH_UNKNOWNS, BOTH_UNKNOWNS)) {
                return false;
            }
            skipBlanks();
            return at == length;
        }

        private boolean readRule(Rule into) {
            if (!readTerm(into.left, SIDE_MOST, 0, BOTH_UNKNOWNS) || !takes('>')) {
                return false;
            }
            int known = into.left.unknowns();
            return readTerm(into.right, SIDE_MOST, known, known) && takes(';');
        }

        /** The UNKNOWNS that may stand are told for the first letter and for those behind it. */
        private boolean readTerm(Term into, int most, int atFirst, int behind) {
            into.size = 0;
            depth = 0;
            for (int n = 0; n < most; n++) {
                if (!readLetter(into, n == 0 ? atFirst : behind)) {
                    return false;
                }
                int parts = partsBehind(into.letters[n]);
                if (parts > 0 ? !opens(parts) : !closes()) {
                    return false;
                }
                if (depth == 0) {
                    into.findEnds();
                    return true;
                }
            }
            // The TERM wants one letter more than it may have: that letter's place is the FAULT.
            skipBlanks();
            return false;
        }

        private boolean readLetter(Term into, int mayStand) {
            skipBlanks();
            if (at >= length || slotOf(text[at]) == NONE) {
                return false;
            }
            int unknown = unknownBit(text[at]);
            if ((unknown & mayStand) != unknown) {
                return false;
            }
            into.addLetter(text[at]);
            at++;
            return true;
        }

        private boolean opens(int parts) {
            if (depth >= TERM_MOST || !takes('(')) {
                return false;
            }
            missing[depth] = parts;
            depth++;
            return true;
        }

        /** Behind a part: a comma, if another one is missing, else all that ends with it. */
        private boolean closes() {
            while (depth > 0) {
                missing[depth - 1]--;
                if (missing[depth - 1] > 0) {
                    return takes(',');
                }
                if (!takes(')')) {
                    return false;
                }
                depth--;
            }
            return true;
        }

        private boolean takes(int c) {
            skipBlanks();
            if (at >= length || text[at] != c) {
                return false;
            }
            at++;
            return true;
        }

        private void skipBlanks() {
            while (at < length && text[at] == ' ') {
                at++;
            }
        }
    }

    /** A RULE as it is written. */
    private static final class Script {
        /** A letter brings three bytes more at most, and between the sides stands one. */
        final int[] bytes = new int[2 * 4 * SIDE_MOST + 1];
        int size;

        void writeRule(Rule rule) {
            size = 0;
            writeSide(rule.left);
            put('>');
            writeSide(rule.right);
        }

        private void writeSide(Term side) {
            for (int i = 0; i < side.size; i++) {
                put(side.letters[i]);
                if (partsBehind(side.letters[i]) > 0) {
                    put('(');
                } else {
                    writeBehind(side, i + 1);
                }
            }
        }

        /** What stands between a letter without parts and the next letter, whose place is told. */
        private void writeBehind(Term side, int place) {
            for (int i = place - 2; i >= 0; i--) {
                if (side.ends[i] == place) {
                    put(')');
                }
            }
            for (int i = place - 2; i >= 0; i--) {
                if (side.letters[i] == 'g' && side.ends[i + 1] == place) {
                    put(',');
                }
            }
        }

        private void put(int c) {
            if (size < bytes.length) {
                bytes[size] = c;
                size++;
            }
        }
    }

    /** CALLS of the RULES, what MAY FOLLOW on each, and RINGS. Sets of CALLS are bits of a long. */
    private static final class CallBook {
        final int[] ruleOf = new int[CALLS_MOST];
        final int[] placeOf = new int[CALLS_MOST];
        final int[] ringOf = new int[CALLS_MOST];
        final long[] followers = new long[CALLS_MOST];
        final long[] reached = new long[CALLS_MOST];
        final long[] ofRule = new long[RULES_MOST];
        final int[] lightest = new int[CALLS_MOST];
        /** Bit 0 stands for the letter a, and so on. */
        int heads;
        int count;
        int rings;
        boolean sure;

        boolean has(int c) {
            return c >= 0 && c < count;
        }

        int partSize(State state, int c) {
            return state.rules[ruleOf[c]].right.partSize(placeOf[c]);
        }

        void fillFrom(State state) {
            findHeads(state);
            collect(state);
            for (int c = 0; c < count; c++) {
                followers[c] = followersOf(state, c);
                reached[c] = followers[c];
            }
            reachOn();
            findRings();
        }

        private boolean isHead(int letter) {
            return (heads >>> letter - 'a' & 1) != 0;
        }

        private void findHeads(State state) {
            heads = 0;
            for (int r = 0; r < state.count; r++) {
                heads |= 1 << state.rules[r].left.letters[0] - 'a';
            }
        }

        private void collect(State state) {
            count = 0;
            for (int r = 0; r < state.count; r++) {
                ofRule[r] = 0;
                Term right = state.rules[r].right;
                for (int p = 0; p < right.size; p++) {
                    if (isHead(right.letters[p]) && count < CALLS_MOST) {
                        ruleOf[count] = r;
                        placeOf[count] = p;
                        ofRule[r] |= 1L << count;
                        count++;
                    }
                }
            }
        }

        /** Whether a CALL MAY FOLLOW depends on its LEFT alone: all CALLS of a RULE do, or none. */
        private long followersOf(State state, int c) {
            Term right = state.rules[ruleOf[c]].right;
            long found = 0;
            for (int r = 0; r < state.count; r++) {
                if (comesTo(right, placeOf[c], state.rules[r].left)) {
                    found |= ofRule[r];
                }
            }
            return found;
        }

        private boolean comesTo(Term right, int start, Term left) {
            if (right.letters[start] != left.letters[0]) {
                return false;
            }
            int end = right.ends[start];
            int p = start + 1;
            int q = 1;
            for (int step = 0; step < SIDE_MOST && p < end && q < left.size; step++) {
                int from = right.letters[p];
                int to = left.letters[q];
                if (isUnknown(to) || isUnknown(from) || isHead(from)) {
                    p = right.ends[p];
                    q = left.ends[q];
                } else if (from == to) {
                    p++;
                    q++;
                } else {
                    return false;
                }
            }
            return true;
        }

        private void reachOn() {
            for (int by = 0; by < count; by++) {
                for (int c = 0; c < count; c++) {
                    if (hasBit(reached[c], by)) {
                        reached[c] |= reached[by];
                    }
                }
            }
        }

        private void findRings() {
            rings = 0;
            for (int c = 0; c < count; c++) {
                ringOf[c] = NONE;
            }
            for (int c = 0; c < count; c++) {
                if (ringOf[c] == NONE && hasBit(reached[c], c)) {
                    nameRing(c);
                }
            }
        }

        private void nameRing(int least) {
            for (int d = least; d < count; d++) {
                if (hasBit(reached[least], d) && hasBit(reached[d], least)) {
                    ringOf[d] = rings;
                }
            }
            rings++;
        }
    }

    /**
     * How often each of A, B, C, D and of the numbers for x, y goes into the WEIGHT of each part
     * of a side, when K, L, M are given: the WEIGHT is the sum of these times those.
     */
    private static final class Shares {
        static final int KINDS = 6;
        final int[] times = new int[SIDE_MOST * KINDS];

        void countIn(Term side, int k, int l, int m) {
            for (int p = side.size - 1; p >= 0; p--) {
                for (int i = 0; i < KINDS; i++) {
                    times[p * KINDS + i] = 0;
                }
                int slot = slotOf(side.letters[p]);
                if (slot != NONE) {
                    times[p * KINDS + slot] = 1;
                }
                if (side.letters[p] == 'f') {
                    addPart(p, p + 1, k);
                } else if (side.letters[p] == 'g') {
                    addPart(p, p + 1, l);
                    addPart(p, p + 1 < side.size ? side.ends[p + 1] : NONE, m);
                }
            }
        }

        private void addPart(int whole, int part, int often) {
            if (part < 0 || part >= SIDE_MOST) {
                return;
            }
            for (int i = 0; i < KINDS; i++) {
                times[whole * KINDS + i] += often * times[part * KINDS + i];
            }
        }
    }

    /** WEIGHTS tried on TERMS. */
    private static final class Scales {
        static final int ROW = 5;
        final Shares left = new Shares();
        final Shares right = new Shares();
        /** What A, B, C, D have to meet, by rows: how often each goes in, and what the sum must be at least. */
        final int[] rows = new int[(RULES_MOST + CALLS_MOST) * ROW];
        final long[] totals = new long[TERM_MOST];
        int rowCount;

        /** Figures are A B C D K L M: 2 LEFT is HEAVIER, 1 AS HEAVY, 0 neither. */
        int compareSides(Rule rule, int[] figures) {
            left.countIn(rule.left, figures[4], figures[5], figures[6]);
            right.countIn(rule.right, figures[4], figures[5], figures[6]);
            rowCount = 0;
            if (!addRow(0, 1)) {
                return 0;
            }
            int more = sumOfRow(0, figures[0], figures[1], figures[2], figures[3]);
            if (more > 0) {
                return 2;
            }
            return more == 0 ? 1 : 0;
        }

        int weightLeftOver(Term whole, int[] figures) {
            for (int p = whole.size - 1; p >= 0; p--) {
                int slot = slotOf(whole.letters[p]);
                long sum = slot >= 0 && slot < 4 ? figures[slot] : 0;
                if (whole.letters[p] == 'f') {
                    sum += figures[4] * totalAt(whole, p + 1);
                } else if (whole.letters[p] == 'g' && p + 1 < whole.size) {
                    sum += figures[5] * totalAt(whole, p + 1);
                    sum += figures[6] * totalAt(whole, whole.ends[p + 1]);
                }
                totals[p] = sum % PRIME;
            }
            return (int) totals[0];
        }

        private long totalAt(Term whole, int p) {
            return p >= 0 && p < whole.size ? totals[p] : 0;
        }

        /** FALL, if the ring is NONE; else LIGHTER of that RING of the book. */
        int leastWeights(State state, CallBook book, int ring) {
            int low = ring == NONE ? 1 : 0;
            int top = ring == NONE ? 3 : 2;
            int best = NONE;
            for (int k = low; k <= low + 2; k++) {
                for (int l = low; l <= low + 2; l++) {
                    for (int m = low; m <= low + 2; m++) {
                        if (fillRows(state, book, ring, k, l, m)) {
                            best = leastByRows(100 * k + 10 * l + m, top, best);
                        }
                    }
                }
            }
            return best;
        }

        /** False: by such K, L, M something grows with an UNKNOWN that must not. */
        private boolean fillRows(State state, CallBook book, int ring, int k, int l, int m) {
            rowCount = 0;
            for (int r = 0; r < state.count; r++) {
                left.countIn(state.rules[r].left, k, l, m);
                right.countIn(state.rules[r].right, k, l, m);
                if (!addRow(0, ring == NONE ? 1 : 0)) {
                    return false;
                }
                if (ring != NONE && !addCallRows(book, ring, r)) {
                    return false;
                }
            }
            return true;
        }

        private boolean addCallRows(CallBook book, int ring, int r) {
            for (int c = 0; c < book.count; c++) {
                if (book.ruleOf[c] == r && book.ringOf[c] == ring && !addRow(book.placeOf[c], 1)) {
                    return false;
                }
            }
            return true;
        }

        /** The LEFT counted last against the part at a place of the RIGHT counted last. */
        private boolean addRow(int place, int least) {
            int part = place * Shares.KINDS;
            if (part < 0 || part + Shares.KINDS > right.times.length) {
                return false;
            }
            if (left.times[4] < right.times[part + 4] || left.times[5] < right.times[part + 5]) {
                return false;
            }
            int row = rowCount * ROW;
            if (row + ROW > rows.length) {
                return false;
            }
            for (int i = 0; i < 4; i++) {
                rows[row + i] = left.times[i] - right.times[part + i];
            }
            rows[row + 4] = least;
            rowCount++;
            return true;
        }

        /** The least number with these last three figures that meets all rows, if it is below the best. */
        private int leastByRows(int lastFigures, int top, int best) {
            for (int a = 0; a <= top; a++) {
                for (int b = 0; b <= top; b++) {
                    for (int c = 0; c <= top; c++) {
                        for (int d = 0; d <= top; d++) {
                            int number = 1000 * (1000 * a + 100 * b + 10 * c + d) + lastFigures;
                            if (best != NONE && number > best) {
                                return best;
                            }
                            if (meetsRows(a, b, c, d)) {
                                return number;
                            }
                        }
                    }
                }
            }
            return best;
        }

        private boolean meetsRows(int a, int b, int c, int d) {
            for (int i = 0; i < rowCount; i++) {
                if (sumOfRow(i, a, b, c, d) < rows[i * ROW + 4]) {
                    return false;
                }
            }
            return true;
        }

        private int sumOfRow(int i, int a, int b, int c, int d) {
            int row = i * ROW;
            return a * rows[row] + b * rows[row + 1] + c * rows[row + 2] + d * rows[row + 3];
        }
    }

    /** TURNS of a TERM. */
    private static final class Turner {
        final Term built = new Term(TERM_MOST);
        /** Places of the TERMS that stand for x (1) and y (2) in the LEFT tried last. */
        final int[] bound = new int[3];
        int at;
        int rule;

        int turnMany(State state, Term whole, int most) {
            for (int done = 0; done < most; done++) {
                if (!seek(state, whole) || !build(state.rules[rule], whole)) {
                    return done;
                }
                whole.copyFrom(built);
            }
            return most;
        }

        /** Finds the next TURN: the place of its part and its rule. */
        boolean seek(State state, Term whole) {
            at = NONE;
            for (int i = 0; i < whole.size; i++) {
                // What has been found has nothing within it that turns, once its end is come to.
                if (at != NONE && i >= whole.ends[at]) {
                    break;
                }
                int found = leastRuleAt(state, whole, i);
                if (found != NONE) {
                    at = i;
                    rule = found;
                }
            }
            return at != NONE;
        }

        private int leastRuleAt(State state, Term whole, int start) {
            for (int r = 0; r < state.count; r++) {
                if (fits(state.rules[r].left, whole, start)) {
                    return r;
                }
            }
            return NONE;
        }

        private boolean fits(Term left, Term whole, int start) {
            bound[1] = NONE;
            bound[2] = NONE;
            int i = start;
            for (int p = 0; p < left.size; p++) {
                if (i < 0 || i >= whole.size) {
                    return false;
                }
                int letter = left.letters[p];
                int unknown = unknownBit(letter);
                if (unknown == 0 && whole.letters[i] != letter) {
                    return false;
                }
                if (unknown != 0 && bound[unknown] == NONE) {
                    bound[unknown] = i;
                }
                if (unknown != 0 && !whole.sameParts(bound[unknown], i)) {
                    return false;
                }
                i = unknown == 0 ? i + 1 : whole.ends[i];
            }
            return true;
        }

        /** The whole with the part that was found turned; false: it would be too great. */
        private boolean build(Rule used, Term whole) {
            // Other rules have been tried since: the places are those of the last one.
            if (!fits(used.left, whole, at) || sizeBehind(used.right, whole) > TERM_MOST) {
                return false;
            }
            built.size = 0;
            for (int i = 0; i < at; i++) {
                built.addLetter(whole.letters[i]);
            }
            for (int p = 0; p < used.right.size; p++) {
                int letter = used.right.letters[p];
                if (isUnknown(letter)) {
                    built.addPart(whole, bound[unknownBit(letter)]);
                } else {
                    built.addLetter(letter);
                }
            }
            for (int i = whole.ends[at]; i < whole.size; i++) {
                built.addLetter(whole.letters[i]);
            }
            built.findEnds();
            return true;
        }

        private int sizeBehind(Term right, Term whole) {
            int size = whole.size - whole.partSize(at);
            for (int p = 0; p < right.size; p++) {
                int unknown = unknownBit(right.letters[p]);
                size += unknown == 0 ? 1 : whole.partSize(bound[unknown]);
            }
            return size;
        }
    }
}
