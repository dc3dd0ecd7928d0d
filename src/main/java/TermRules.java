import java.util.Arrays;

/**
 * Rules by which terms are rewritten. The document says what each call promises.
 *
 * <p>Inside, a term is a row of codes in the order in which its nodes are read: a symbol is its
 * number, variable v is -1 - v. As each symbol has a fixed number of parts, the row alone tells the
 * term.
 */
public final class TermRules {
    public static final int NONE = -1;

    private static final int FAULT = -2;
    private static final int WRONG = -3;
    private static final int REFUSED = -4;
    private static final int UNKNOWN = -5;

    private static final int TAPE_BYTES = 4000;
    private static final int FED_BYTES = 20;
    private static final int WRITTEN_BYTES = 4000;
    /** Two names never touch, so 4000 bytes, read or written, have no more nodes than this. */
    private static final int TEXT_NODES = 2000;
    private static final int NAME_BYTES = 12;
    private static final int MOST_DEPTH = 60;
    private static final int MOST_RULES = 20;
    private static final int MOST_SYMBOLS = 6;
    private static final int SIDE_NODES = 40;
    private static final int TERM_NODES = 1000;
    private static final int MOST_STEPS = 2000;
    private static final int MOST_MEETINGS = 1000;

    private final byte[] tape = new byte[TAPE_BYTES];
    private int fed = 0;
    private int metAt = NONE;
    private final Text text = new Text();
    private final RuleBook book = new RuleBook();
    private final Names variables = new Names(TEXT_NODES);
    private final int[] term = new int[TEXT_NODES];
    private final int[] firstEnd = new int[TERM_NODES];
    private final int[] secondEnd = new int[TERM_NODES];
    private final Reducer reducer = new Reducer();
    private final Orders orders = new Orders();
    private final Meetings found = new Meetings();
    private final Writer writer = new Writer();
    private final byte[] resultBytes = new byte[WRITTEN_BYTES];
    private int resultLength = NONE;
    private final byte[] writtenBytes = new byte[WRITTEN_BYTES];
    private int writtenLength = 0;
    private int sure = UNKNOWN;

    public TermRules() {
    }

    public int feed(int a, int b, int c, int d, int e) {
        if (fed + FED_BYTES > TAPE_BYTES) {
            return NONE;
        }
        layFour(a);
        layFour(b);
        layFour(c);
        layFour(d);
        layFour(e);
        return fed;
    }

    private void layFour(int four) {
        for (int shift = 24; shift >= 0 && fed < TAPE_BYTES; shift -= 8) {
            tape[fed] = (byte) (four >> shift);
            fed++;
        }
    }

    public int rules(int n) {
        if (n < 0 || n > fed) {
            return NONE;
        }
        fed = 0;
        forgetRules();
        metAt = text.findFault(tape, n, Text.RULES);
        if (metAt != NONE) {
            return FAULT;
        }
        metAt = book.takeRules(text);
        return metAt == NONE ? book.count : WRONG;
    }

    private void forgetRules() {
        book.clear();
        orders.isKnown = false;
        found.isKnown = false;
        sure = UNKNOWN;
        resultLength = NONE;
    }

    public int place() {
        return metAt;
    }

    public int symbols() {
        return book.symbols.count;
    }

    public int parts(int symbol) {
        return symbol < 0 || symbol >= book.symbols.count ? NONE : book.parts[symbol];
    }

    public int order(int place) {
        orders.find(book);
        boolean isThere = orders.exists && place >= 0 && place < book.symbols.count;
        return isThere ? orders.first[place] : NONE;
    }

    public int reduce(int n) {
        if (n < 0 || n > fed) {
            return NONE;
        }
        resultLength = NONE;
        int answer = readTerms(n, Text.TERM);
        if (answer != 0) {
            return answer;
        }
        int steps = reducer.run(book, term, 0, text.count, firstEnd);
        if (steps != REFUSED) {
            // The tape's names are gone with the next text, so the result is written at once.
            resultLength = writer.draw(book, firstEnd, reducer.size, variables);
            copyDraft(resultBytes, resultLength);
        }
        return steps;
    }

    public int same(int n) {
        if (n < 0 || n > fed) {
            return NONE;
        }
        int answer = readTerms(n, Text.PAIR);
        if (answer != 0) {
            return answer;
        }
        int middle = text.nodesOfSide(0);
        if (reducer.run(book, term, 0, middle, firstEnd) == REFUSED) {
            return REFUSED;
        }
        int firstSize = reducer.size;
        if (reducer.run(book, term, middle, text.count - middle, secondEnd) == REFUSED) {
            return REFUSED;
        }
        return haveSameEnd(firstSize, reducer.size) ? 1 : 0;
    }

    /** Empties the tape and lays the codes of its term or terms: 0, or the answer for a bad text. */
    private int readTerms(int n, int kind) {
        fed = 0;
        metAt = text.findFault(tape, n, kind);
        if (metAt != NONE) {
            return FAULT;
        }
        metAt = book.takeTerms(text, variables, term);
        return metAt == NONE ? 0 : WRONG;
    }

    private boolean haveSameEnd(int firstSize, int secondSize) {
        if (firstSize != secondSize) {
            return false;
        }
        for (int k = 0; k < firstSize && k < TERM_NODES; k++) {
            if (firstEnd[k] != secondEnd[k]) {
                return false;
            }
        }
        return true;
    }

    public int meetings() {
        found.find(book);
        return found.count;
    }

    public int meeting(int k, int what) {
        if (!isMeeting(k)) {
            return NONE;
        }
        switch (what) {
            case 0:
                return found.outer[k];
            case 1:
                return found.inner[k];
            case 2:
                return found.at[k];
            default:
                return NONE;
        }
    }

    private boolean isMeeting(int k) {
        found.find(book);
        return k >= 0 && k < found.count;
    }

    public int closes(int k) {
        return isMeeting(k) ? compareSides(k) : NONE;
    }

    private int compareSides(int k) {
        int firstCount = found.laySide(book, k, 0, term);
        if (reducer.run(book, term, 0, firstCount, firstEnd) == REFUSED) {
            return REFUSED;
        }
        int firstSize = reducer.size;
        int secondCount = found.laySide(book, k, 1, term);
        if (reducer.run(book, term, 0, secondCount, secondEnd) == REFUSED) {
            return REFUSED;
        }
        return haveSameEnd(firstSize, reducer.size) ? 1 : 0;
    }

    public int isSure() {
        orders.find(book);
        if (!orders.exists) {
            return NONE;
        }
        if (sure == UNKNOWN) {
            found.find(book);
            sure = 1;
            for (int k = 0; k < found.count && sure == 1; k++) {
                sure = compareSides(k) == 1 ? 1 : 0;
            }
        }
        return sure;
    }

    public int write(int k, int side, boolean reduced) {
        if (!isMeeting(k) || side < 0 || side > 1) {
            return NONE;
        }
        int count = found.laySide(book, k, side, term);
        if (!reduced) {
            return count > TEXT_NODES ? NONE : drawSide(term, count);
        }
        if (reducer.run(book, term, 0, count, firstEnd) == REFUSED) {
            return REFUSED;
        }
        return drawSide(firstEnd, reducer.size);
    }

    private int drawSide(int[] codes, int count) {
        int length = writer.draw(book, codes, count, null);
        if (length != NONE) {
            copyDraft(writtenBytes, length);
            writtenLength = length;
        }
        return length;
    }

    private void copyDraft(byte[] target, int length) {
        if (length > 0) {
            System.arraycopy(writer.draft, 0, target, 0, length);
        }
    }

    public int result() {
        if (resultLength != NONE) {
            System.arraycopy(resultBytes, 0, writtenBytes, 0, resultLength);
            writtenLength = resultLength;
        }
        return resultLength;
    }

    public int written(int i) {
        return i < 0 || i >= writtenLength ? NONE : writtenBytes[i] & 255;
    }

    /**
     * Turns a row of codes round: each node behind its parts, the last one first. Laid on a stack in
     * this order, the nodes come off it as they are to be built, from the left. The row open needs
     * two elements for each node.
     */
    private static void turnRound(int[] parts, int[] codes, int from, int count, int[] turned, int[] open) {
        int depth = 0;
        int next = count - 1;
        for (int k = from; k < from + count; k++) {
            int code = codes[k];
            if (code >= 0 && parts[code] > 0) {
                open[2 * depth] = code;
                open[2 * depth + 1] = parts[code];
                depth++;
                continue;
            }
            turned[next--] = code;
            for (; depth > 0; depth--) {
                if (--open[2 * depth - 1] > 0) {
                    break;
                }
                turned[next--] = open[2 * depth - 2];
            }
        }
    }

    /** Names as numbers: the first eight bytes in one, the last four in the other. */
    private static final class Names {
        final long[] heads;
        final int[] tails;
        int count = 0;

        Names(int most) {
            heads = new long[most];
            tails = new int[most];
        }

        int find(long head, int tail) {
            for (int k = 0; k < count; k++) {
                if (heads[k] == head && tails[k] == tail) {
                    return k;
                }
            }
            return NONE;
        }

        /** The number of a name that is new here; NONE when there is no room for it. */
        int add(long head, int tail) {
            if (count >= heads.length) {
                return NONE;
            }
            heads[count] = head;
            tails[count] = tail;
            return count++;
        }

        int findOrAdd(long head, int tail) {
            int known = find(head, tail);
            return known == NONE ? add(head, tail) : known;
        }
    }

    /** Cuts the tape into tokens. */
    private static final class Tokens {
        static final int END = -1;
        static final int BAD = -2;
        static final int NAME = -3;

        private byte[] tape = new byte[0];
        private int end = 0;
        private int next = 0;
        /** END, BAD (a byte at which there is no token), NAME, or the byte of a sign. */
        int kind = END;
        int at = 0;
        long head = 0;
        int tail = 0;

        void begin(byte[] bytes, int n) {
            tape = bytes;
            end = Math.min(n, bytes.length);
            next = 0;
        }

        void step() {
            while (next < end && isBlank(tape[next])) {
                next++;
            }
            at = next;
            if (next >= end) {
                kind = END;
            } else if (isLetter(tape[next])) {
                kind = readName() > NAME_BYTES ? BAD : NAME;
            } else {
                kind = isSign(tape[next]) ? tape[next] : BAD;
                next++;
            }
        }

        private int readName() {
            head = 0;
            tail = 0;
            for (; next < end && (isLetter(tape[next]) || isDigit(tape[next])); next++) {
                int k = next - at;
                if (k < 8) {
                    head |= (long) tape[next] << (56 - 8 * k);
                } else if (k < NAME_BYTES) {
                    tail |= tape[next] << (24 - 8 * (k - 8));
                }
            }
            return next - at;
        }

        private static boolean isBlank(int b) {
            return b == 32 || b == 9 || b == 10 || b == 13;
        }

        private static boolean isLetter(int b) {
            return b >= 'a' && b <= 'z' || b >= 'A' && b <= 'Z';
        }

        private static boolean isDigit(int b) {
            return b >= '0' && b <= '9';
        }

        private static boolean isSign(int b) {
            return b == '(' || b == ')' || b == ',' || b == '=' || b == ';';
        }
    }

    /** The nodes of a text as they are read, and the place of its fault. */
    private static final class Text {
        static final int RULES = 0;
        static final int TERM = 1;
        static final int PAIR = 2;

        private static final int RULE_OR_END = 0;
        private static final int BEGIN_TERM = 1;
        private static final int BEHIND_SYMBOL = 2;
        private static final int BEHIND_TERM = 3;

        private final Tokens tokens = new Tokens();
        private final int[] open = new int[MOST_DEPTH];
        private int depth = 0;
        private int state = BEGIN_TERM;
        private int kind = TERM;
        final int[] at = new int[TEXT_NODES];
        final long[] heads = new long[TEXT_NODES];
        final int[] tails = new int[TEXT_NODES];
        final int[] parts = new int[TEXT_NODES];
        /** Which side of the text a node is in: sides 2r and 2r + 1 are those of rule r. */
        final int[] sideOf = new int[TEXT_NODES];
        int side = 0;
        int count = 0;

        /** The place of the fault, NONE when there is none. */
        int findFault(byte[] tape, int n, int kindOfText) {
            tokens.begin(tape, n);
            kind = kindOfText;
            state = kind == RULES ? RULE_OR_END : BEGIN_TERM;
            depth = 0;
            side = 0;
            count = 0;
            for (int turn = 0; turn <= n; turn++) {
                tokens.step();
                if (tokens.kind == Tokens.END) {
                    return mayEnd() ? NONE : n;
                }
                if (!goesOn(tokens.kind)) {
                    return tokens.at;
                }
            }
            return n;
        }

        private boolean goesOn(int token) {
            switch (token) {
                case Tokens.NAME:
                    return beginTerm();
                case '(':
                    return openParts();
                case ',':
                    return endTerm(depth > 0, BEGIN_TERM);
                case ')':
                    return closeParts();
                case '=':
                    return endSide(mayEqual(), BEGIN_TERM);
                case ';':
                    return endSide(kind == RULES && side % 2 == 1, RULE_OR_END);
                default:
                    return false;
            }
        }

        private boolean beginTerm() {
            boolean isWanted = state == BEGIN_TERM || state == RULE_OR_END;
            if (!isWanted || depth >= MOST_DEPTH || count >= TEXT_NODES) {
                return false;
            }
            at[count] = tokens.at;
            heads[count] = tokens.head;
            tails[count] = tokens.tail;
            parts[count] = 0;
            sideOf[count] = side;
            if (depth > 0) {
                parts[open[depth - 1]]++;
            }
            state = isVariable(count) ? BEHIND_TERM : BEHIND_SYMBOL;
            count++;
            return true;
        }

        private boolean openParts() {
            if (state != BEHIND_SYMBOL || depth >= MOST_DEPTH) {
                return false;
            }
            open[depth++] = count - 1;
            state = BEGIN_TERM;
            return true;
        }

        private boolean closeParts() {
            if (!endTerm(depth > 0, BEHIND_TERM)) {
                return false;
            }
            depth--;
            return true;
        }

        private boolean endSide(boolean isAllowed, int then) {
            if (!endTerm(isAllowed && depth == 0, then)) {
                return false;
            }
            side++;
            return true;
        }

        private boolean endTerm(boolean isAllowed, int then) {
            if (!isAllowed || !isBehindTerm()) {
                return false;
            }
            state = then;
            return true;
        }

        private boolean isBehindTerm() {
            return state == BEHIND_SYMBOL || state == BEHIND_TERM;
        }

        private boolean mayEqual() {
            return kind == RULES ? side % 2 == 0 : kind == PAIR && side == 0;
        }

        private boolean mayEnd() {
            if (kind == RULES) {
                return state == RULE_OR_END;
            }
            return depth == 0 && isBehindTerm() && side == (kind == PAIR ? 1 : 0);
        }

        boolean isVariable(int node) {
            long first = heads[node] >>> 56;
            return first >= 'A' && first <= 'Z';
        }

        int nodesOfSide(int which) {
            int nodes = 0;
            for (int k = 0; k < count; k++) {
                if (sideOf[k] == which) {
                    nodes++;
                }
            }
            return nodes;
        }
    }

    /** A side of a rule. */
    private static final class Side {
        final int[] codes = new int[SIDE_NODES];
        /**
         * How many nodes each part has: the next part beside it begins so many nodes later. A loop
         * over parts goes on by one at least, so that its end can be seen whatever stands here.
         */
        final int[] sizes = new int[SIDE_NODES];
        int count = 0;

        void measure(int[] parts) {
            for (int p = count - 1; p >= 0; p--) {
                int end = p + 1;
                int left = codes[p] < 0 ? 0 : parts[codes[p]];
                for (; left > 0 && end < count; left--) {
                    end += sizes[end];
                }
                sizes[p] = end - p;
            }
        }

        boolean hasSamePart(int p, Side that, int q) {
            if (sizes[p] != that.sizes[q]) {
                return false;
            }
            for (int k = 0; k < sizes[p]; k++) {
                if (codes[p + k] != that.codes[q + k]) {
                    return false;
                }
            }
            return true;
        }
    }

    private static final class Rule {
        final Side front = new Side();
        final Side other = new Side();
        /** The other side turned round, as the reducer takes it. */
        final int[] turned = new int[SIDE_NODES];
        /** Where each variable stands first in the front. */
        final int[] firstAt = new int[SIDE_NODES];
        int variables = 0;
    }

    /** The rules with their symbols; it also knows what is wrong with a text. */
    private static final class RuleBook {
        /** Far below the code of any variable. */
        private static final int NO_CODE = -1000000;

        final Rule[] rules = new Rule[MOST_RULES];
        final Names symbols = new Names(MOST_SYMBOLS);
        final int[] parts = new int[MOST_SYMBOLS];
        int count = 0;
        private final Names ruleVariables = new Names(SIDE_NODES);
        private final int[] open = new int[2 * SIDE_NODES];

        RuleBook() {
            for (int r = 0; r < MOST_RULES; r++) {
                rules[r] = new Rule();
            }
        }

        void clear() {
            count = 0;
            symbols.count = 0;
        }

        /** The place of what is wrong, with no rules then; NONE when the text's rules are taken. */
        int takeRules(Text text) {
            clear();
            for (int k = 0; k < text.count; k++) {
                if (!takeNode(text, k)) {
                    clear();
                    return text.at[k];
                }
            }
            count = Math.min(text.side / 2, MOST_RULES);
            for (int r = 0; r < count; r++) {
                finish(rules[r]);
            }
            return NONE;
        }

        private boolean takeNode(Text text, int k) {
            int number = text.sideOf[k] / 2;
            if (number >= MOST_RULES) {
                return false;
            }
            Rule rule = rules[number];
            boolean isBehind = text.sideOf[k] % 2 == 1;
            Side side = isBehind ? rule.other : rule.front;
            if (k == 0 || text.sideOf[k - 1] != text.sideOf[k]) {
                side.count = 0;
                if (!isBehind) {
                    rule.variables = 0;
                    ruleVariables.count = 0;
                }
            }
            if (side.count >= SIDE_NODES) {
                return false;
            }
            int code = text.isVariable(k) ? variableCode(text, k, rule, isBehind) : newSymbolCode(text, k);
            if (code == NO_CODE) {
                return false;
            }
            side.codes[side.count++] = code;
            return true;
        }

        private int variableCode(Text text, int k, Rule rule, boolean isBehind) {
            int known = ruleVariables.find(text.heads[k], text.tails[k]);
            if (known != NONE) {
                return -1 - known;
            }
            // A variable that begins the front is all of it, for it stands alone.
            if (isBehind || rule.front.count == 0) {
                return NO_CODE;
            }
            int added = ruleVariables.add(text.heads[k], text.tails[k]);
            if (added == NONE) {
                return NO_CODE;
            }
            rule.firstAt[added] = rule.front.count;
            rule.variables = added + 1;
            return -1 - added;
        }

        private int newSymbolCode(Text text, int k) {
            if (symbols.find(text.heads[k], text.tails[k]) != NONE) {
                return symbolCode(text, k);
            }
            int added = symbols.add(text.heads[k], text.tails[k]);
            if (added == NONE) {
                return NO_CODE;
            }
            parts[added] = text.parts[k];
            return added;
        }

        private int symbolCode(Text text, int k) {
            int known = symbols.find(text.heads[k], text.tails[k]);
            return known == NONE || parts[known] != text.parts[k] ? NO_CODE : known;
        }

        private void finish(Rule rule) {
            rule.front.measure(parts);
            rule.other.measure(parts);
            turnRound(parts, rule.other.codes, 0, rule.other.count, rule.turned, open);
        }

        /** Lays the codes of a text without rules: the place of what is wrong, or NONE. */
        int takeTerms(Text text, Names variables, int[] codes) {
            variables.count = 0;
            for (int k = 0; k < text.count; k++) {
                int code = text.isVariable(k)
                        ? -1 - variables.findOrAdd(text.heads[k], text.tails[k])
                        : symbolCode(text, k);
                if (code == NO_CODE) {
                    return text.at[k];
                }
                codes[k] = code;
            }
            return NONE;
        }
    }

    /** Finds the order, trying sixty-four rows at once, one in each bit of a long. */
    private static final class Orders {
        private static final int BITS = 64;
        private static final int MOST_ROWS = 720;
        private static final long ALL = -1L;

        boolean isKnown = false;
        boolean exists = false;
        final int[] first = new int[MOST_SYMBOLS];
        private final int[] row = new int[MOST_SYMBOLS];
        private final int[] tried = new int[BITS * MOST_SYMBOLS];
        /** By which of the tried rows symbol f comes before symbol g. */
        private final long[] before = new long[MOST_SYMBOLS * MOST_SYMBOLS];
        /** By which of them a part of the front is above a part of the other side. */
        private final long[] above = new long[SIDE_NODES * SIDE_NODES];

        void find(RuleBook book) {
            if (isKnown) {
                return;
            }
            isKnown = true;
            exists = false;
            int n = book.symbols.count;
            for (int k = 0; k < n; k++) {
                row[k] = k;
            }
            boolean hasMore = true;
            for (int from = 0; from < MOST_ROWS && hasMore && !exists; from += BITS) {
                Arrays.fill(before, 0L);
                int rows = 0;
                for (; rows < BITS && hasMore; rows++) {
                    tryRow(rows, n);
                    hasMore = stepRow(n);
                }
                keepFirst(endBits(book), rows, n);
            }
        }

        private void tryRow(int bit, int n) {
            for (int p = 0; p < n; p++) {
                tried[bit * MOST_SYMBOLS + p] = row[p];
                for (int q = p + 1; q < n; q++) {
                    before[row[p] * MOST_SYMBOLS + row[q]] |= 1L << bit;
                }
            }
        }

        /** Makes the row the next one; false when it was the last. */
        private boolean stepRow(int n) {
            int p = n - 2;
            while (p >= 0 && row[p] > row[p + 1]) {
                p--;
            }
            if (p < 0) {
                return false;
            }
            int q = n - 1;
            while (q > p && row[q] < row[p]) {
                q--;
            }
            swap(p, q);
            for (int a = p + 1, b = n - 1; a < b; a++, b--) {
                swap(a, b);
            }
            return true;
        }

        private void swap(int p, int q) {
            int kept = row[p];
            row[p] = row[q];
            row[q] = kept;
        }

        private void keepFirst(long bits, int rows, int n) {
            for (int bit = 0; bit < rows && !exists; bit++) {
                if ((bits >>> bit & 1L) == 1L) {
                    exists = true;
                    System.arraycopy(tried, bit * MOST_SYMBOLS, first, 0, n);
                }
            }
        }

        /** By which of the tried rows the rules end. */
        private long endBits(RuleBook book) {
            long bits = ALL;
            for (int r = 0; r < book.count && bits != 0; r++) {
                Side front = book.rules[r].front;
                Side other = book.rules[r].other;
                // From the last nodes on, so that what is asked of their parts is known.
                for (int s = front.count - 1; s >= 0; s--) {
                    for (int t = other.count - 1; t >= 0; t--) {
                        above[s * SIDE_NODES + t] = partBits(front, s, other, t);
                    }
                }
                bits &= above[0];
            }
            return bits;
        }

        private long partBits(Side front, int s, Side other, int t) {
            if (front.codes[s] < 0) {
                return 0;
            }
            long bits = 0;
            for (int c = s + 1; c < s + front.sizes[s]; c += Math.max(1, front.sizes[c])) {
                bits |= front.hasSamePart(c, other, t) ? ALL : above[c * SIDE_NODES + t];
            }
            return other.codes[t] < 0 ? bits : bits | overPartsBits(front, s, other, t);
        }

        /** By which rows s is above all parts of t, and its symbol or its parts come before. */
        private long overPartsBits(Side front, int s, Side other, int t) {
            int f = front.codes[s];
            int g = other.codes[t];
            long bits = f == g ? differenceBits(front, s, other, t) : before[f * MOST_SYMBOLS + g];
            for (int d = t + 1; d < t + other.sizes[t] && bits != 0; d += Math.max(1, other.sizes[d])) {
                bits &= above[s * SIDE_NODES + d];
            }
            return bits;
        }

        private long differenceBits(Side front, int s, Side other, int t) {
            int d = t + 1;
            for (int c = s + 1; c < s + front.sizes[s]; c += Math.max(1, front.sizes[c])) {
                if (!front.hasSamePart(c, other, d)) {
                    return above[c * SIDE_NODES + d];
                }
                d += other.sizes[d];
            }
            return 0;
        }
    }

    /**
     * Does steps until a term is normal. All that has been built is normal, and shared where a rule
     * puts it in more than once; so a step costs no more than its rule is long.
     */
    private static final class Reducer {
        /** A node on the heap: its code, its size, then where each of its parts is. */
        private static final int SIZE = 1;
        private static final int PARTS = 2;
        /** More than twice what 1000 nodes take, so that packing it is rare. */
        private static final int HEAP = 8000;
        private static final int MOST_TURNS = TERM_NODES + (MOST_STEPS + 1) * SIDE_NODES;

        /** How many nodes the whole term has. */
        int size = 0;
        private int steps = 0;
        private int[] heap = new int[HEAP];
        private int[] spare = new int[HEAP];
        private int top = 0;
        /** What is still to be built, the next on top: a symbol, or -1 - the place of a normal term. */
        private final int[] todo = new int[TERM_NODES];
        private int todoCount = 0;
        private final int[] done = new int[TERM_NODES];
        private int doneCount = 0;
        private final int[] bound = new int[SIDE_NODES];
        private final int[] waiting = new int[2 * SIDE_NODES];
        private final int[] left = new int[TERM_NODES];
        private final int[] right = new int[TERM_NODES];
        private final int[] open = new int[2 * TERM_NODES];

        /** Reduces a term into the row end: in how many steps, or REFUSED. */
        int run(RuleBook book, int[] codes, int from, int count, int[] end) {
            if (count > TERM_NODES) {
                return REFUSED;
            }
            begin(book, codes, from, count);
            for (int turn = 0; turn < MOST_TURNS && todoCount > 0; turn++) {
                int item = todo[--todoCount];
                if (item < 0) {
                    done[doneCount++] = -1 - item;
                } else if (!build(book, item)) {
                    return REFUSED;
                }
            }
            layEnd(book, end);
            return steps;
        }

        private void begin(RuleBook book, int[] codes, int from, int count) {
            top = 0;
            steps = 0;
            size = count;
            doneCount = 0;
            todoCount = count;
            turnRound(book.parts, codes, from, count, todo, open);
            for (int k = 0; k < count; k++) {
                if (todo[k] < 0) {
                    heap[top] = todo[k];
                    heap[top + SIZE] = 1;
                    todo[k] = -1 - top;
                    top += PARTS;
                }
            }
        }

        /** Puts a symbol over the parts that are done, and does a step there if there is one. */
        private boolean build(RuleBook book, int symbol) {
            int node = makeNode(book, symbol);
            for (int r = 0; r < book.count; r++) {
                Rule rule = book.rules[r];
                if (rule.front.codes[0] == symbol && matches(book, rule, node)) {
                    return doStep(rule, node);
                }
            }
            done[doneCount++] = node;
            return true;
        }

        private int makeNode(RuleBook book, int symbol) {
            int n = book.parts[symbol];
            if (top + PARTS + n > HEAP) {
                pack(book);
            }
            int node = top;
            int nodes = 1;
            doneCount -= n;
            for (int k = 0; k < n; k++) {
                heap[node + PARTS + k] = done[doneCount + k];
                nodes += heap[done[doneCount + k] + SIZE];
            }
            heap[node] = symbol;
            heap[node + SIZE] = nodes;
            top += PARTS + n;
            return node;
        }

        /** Moves what is still in use to the other heap; as the term has few nodes, it has room. */
        private void pack(RuleBook book) {
            int[] old = heap;
            heap = spare;
            spare = old;
            top = 0;
            for (int k = 0; k < doneCount; k++) {
                done[k] = move(book, done[k]);
            }
            for (int k = 0; k < todoCount; k++) {
                if (todo[k] < 0) {
                    todo[k] = -1 - move(book, -1 - todo[k]);
                }
            }
            int node = 0;
            for (int turn = 0; turn < HEAP && node < top; turn++) {
                int end = node + PARTS + partsAt(book, heap[node]);
                for (int k = node + PARTS; k < end; k++) {
                    heap[k] = move(book, heap[k]);
                }
                node = end;
            }
        }

        private int move(RuleBook book, int node) {
            int length = PARTS + partsAt(book, spare[node]);
            int place = top;
            System.arraycopy(spare, node, heap, place, length);
            top += length;
            return place;
        }

        private static int partsAt(RuleBook book, int code) {
            return code < 0 ? 0 : book.parts[code];
        }

        private boolean matches(RuleBook book, Rule rule, int node) {
            for (int v = 0; v < rule.variables; v++) {
                bound[v] = NONE;
            }
            waiting[0] = node;
            int count = 1;
            for (int p = 0; p < rule.front.count; p++) {
                int part = waiting[--count];
                int code = rule.front.codes[p];
                if (code >= 0) {
                    if (heap[part] != code) {
                        return false;
                    }
                    count = layParts(waiting, count, part, book.parts[code]);
                } else if (bound[-1 - code] == NONE) {
                    bound[-1 - code] = part;
                } else if (!isSameTerm(book, bound[-1 - code], part)) {
                    return false;
                }
            }
            return true;
        }

        /** Lays the parts of a node on a stack, the first on top: how many the stack has then. */
        private int layParts(int[] stack, int count, int node, int n) {
            for (int k = 0; k < n; k++) {
                stack[count + k] = heap[node + PARTS + n - 1 - k];
            }
            return count + n;
        }

        private boolean isSameTerm(RuleBook book, int one, int two) {
            left[0] = one;
            right[0] = two;
            int count = 1;
            for (int turn = 0; turn < TERM_NODES && count > 0; turn++) {
                count--;
                int a = left[count];
                int b = right[count];
                if (a == b) {
                    continue;
                }
                if (heap[a] != heap[b] || heap[a + SIZE] != heap[b + SIZE]) {
                    return false;
                }
                int n = partsAt(book, heap[a]);
                layParts(left, count, a, n);
                count = layParts(right, count, b, n);
            }
            return true;
        }

        private boolean doStep(Rule rule, int node) {
            int grown = size - heap[node + SIZE];
            for (int k = 0; k < rule.other.count; k++) {
                int code = rule.other.codes[k];
                grown += code < 0 ? heap[bound[-1 - code] + SIZE] : 1;
            }
            if (steps >= MOST_STEPS || grown > TERM_NODES) {
                return false;
            }
            steps++;
            size = grown;
            // The node was made last and nothing has it as a part, so its room is free again.
            top = node;
            for (int k = 0; k < rule.other.count; k++) {
                int code = rule.turned[k];
                todo[todoCount++] = code < 0 ? -1 - bound[-1 - code] : code;
            }
            return true;
        }

        private void layEnd(RuleBook book, int[] end) {
            left[0] = done[0];
            int count = 1;
            for (int k = 0; k < size && count > 0; k++) {
                int node = left[--count];
                end[k] = heap[node];
                count = layParts(left, count, node, partsAt(book, heap[node]));
            }
        }
    }

    /**
     * Finds where rules meet. The nodes of both fronts are joined in classes of what has to become
     * the same; a class without a symbol is a variable of the meeting.
     */
    private static final class Meetings {
        /** Nodes of the front of j are numbered from here, those of the front of i from 0. */
        private static final int INNER = SIDE_NODES;
        private static final int NODES = 2 * SIDE_NODES;

        boolean isKnown = false;
        int count = 0;
        final int[] outer = new int[MOST_MEETINGS];
        final int[] inner = new int[MOST_MEETINGS];
        final int[] at = new int[MOST_MEETINGS];

        private final int[] codes = new int[NODES];
        private final int[] sizes = new int[NODES];
        /** A node of the same class, itself when it stands for the class; NONE where no node is. */
        private final int[] joined = new int[NODES];
        /** Of each class, by the node that stands for it: a node with its symbol, or NONE. */
        private final int[] symbolAt = new int[NODES];
        private final boolean[] isSeen = new boolean[NODES];
        private final int[] numbers = new int[NODES];
        private int numbered = 0;
        private final int[] left = new int[2 * NODES];
        private final int[] right = new int[2 * NODES];
        private int waiting = 0;
        private int laid = 0;

        void find(RuleBook book) {
            if (isKnown) {
                return;
            }
            isKnown = true;
            count = 0;
            for (int i = 0; i < book.count; i++) {
                for (int p = 0; p < book.rules[i].front.count; p++) {
                    findAt(book, i, p);
                }
            }
        }

        private void findAt(RuleBook book, int i, int p) {
            int symbol = book.rules[i].front.codes[p];
            int rules = p == 0 ? i : book.count;
            for (int j = 0; j < rules && count < MOST_MEETINGS; j++) {
                if (book.rules[j].front.codes[0] == symbol && join(book.rules[i], p, book.rules[j])) {
                    outer[count] = i;
                    inner[count] = j;
                    at[count] = p;
                    count++;
                }
            }
        }

        /** Makes a part of one front and all of the other the same; false when that can't be. */
        private boolean join(Rule one, int p, Rule two) {
            beginClasses(one, 0);
            beginClasses(two, INNER);
            left[0] = p;
            right[0] = INNER;
            waiting = 1;
            for (int turn = 0; turn <= NODES && waiting > 0; turn++) {
                waiting--;
                if (!joinClasses(classOf(left[waiting]), classOf(right[waiting]))) {
                    return false;
                }
            }
            return isFinite(classOf(p));
        }

        private void beginClasses(Rule rule, int base) {
            for (int p = 0; p < SIDE_NODES; p++) {
                joined[base + p] = NONE;
            }
            for (int p = 0; p < rule.front.count; p++) {
                int code = rule.front.codes[p];
                codes[base + p] = code;
                sizes[base + p] = rule.front.sizes[p];
                joined[base + p] = base + (code < 0 ? rule.firstAt[-1 - code] : p);
                symbolAt[base + p] = code < 0 ? NONE : base + p;
            }
        }

        private int classOf(int node) {
            int found = node;
            for (int turn = 0; turn < NODES && joined[found] != found; turn++) {
                found = joined[found];
            }
            return found;
        }

        private boolean joinClasses(int a, int b) {
            if (a == b) {
                return true;
            }
            if (symbolAt[a] == NONE) {
                joined[a] = b;
                return true;
            }
            joined[b] = a;
            if (symbolAt[b] == NONE) {
                return true;
            }
            if (codes[symbolAt[a]] != codes[symbolAt[b]]) {
                return false;
            }
            layParts(left, symbolAt[a]);
            waiting += layParts(right, symbolAt[b]);
            return true;
        }

        /** Lays the parts of a node on those that wait, the first on top: how many. */
        private int layParts(int[] stack, int node) {
            int end = node + sizes[node];
            int n = 0;
            for (int part = node + 1; part < end; part += Math.max(1, sizes[part])) {
                n++;
            }
            int place = waiting + n;
            for (int part = node + 1; part < end; part += Math.max(1, sizes[part])) {
                stack[--place] = part;
            }
            return n;
        }

        /** Whether no class has itself among what is in it. */
        private boolean isFinite(int root) {
            forgetSeen();
            boolean isNew = true;
            for (int turn = 0; turn < NODES && isNew && !isSeen[root]; turn++) {
                isNew = false;
                for (int node = NODES - 1; node >= 0; node--) {
                    if (joined[node] == node && !isSeen[node] && hasSeenParts(symbolAt[node])) {
                        isSeen[node] = true;
                        isNew = true;
                    }
                }
            }
            return isSeen[root];
        }

        private void forgetSeen() {
            for (int node = 0; node < NODES; node++) {
                isSeen[node] = false;
            }
        }

        private boolean hasSeenParts(int node) {
            if (node == NONE) {
                return true;
            }
            int end = node + sizes[node];
            for (int part = node + 1; part < end; part += Math.max(1, sizes[part])) {
                if (!isSeen[classOf(part)]) {
                    return false;
                }
            }
            return true;
        }

        /** Lays a side of a meeting in a row: how many nodes; more than TEXT_NODES when too many. */
        int laySide(RuleBook book, int k, int side, int[] row) {
            Rule one = book.rules[outer[k]];
            Rule two = book.rules[inner[k]];
            join(one, at[k], two);
            forgetSeen();
            numbered = 0;
            laid = 0;
            walkSide(one, two, at[k], 0, null);
            walkSide(one, two, at[k], 1, null);
            walkSide(one, two, at[k], side, row);
            return laid;
        }

        /** Goes through a side: numbers its variables, or lays it when there is a row for it. */
        private void walkSide(Rule one, Rule two, int p, int side, int[] row) {
            if (side == 1) {
                walk(one, one.other, 0, one.other.count, 0, row);
                return;
            }
            walk(one, one.front, 0, p, 0, row);
            walk(two, two.other, 0, two.other.count, INNER, row);
            walk(one, one.front, p + one.front.sizes[p], one.front.count, 0, row);
        }

        private void walk(Rule rule, Side side, int from, int to, int base, int[] row) {
            for (int p = from; p < to && laid <= TEXT_NODES; p++) {
                int code = side.codes[p];
                if (code >= 0) {
                    lay(row, code);
                } else if (row == null) {
                    numberVariables(base + rule.firstAt[-1 - code]);
                } else {
                    layClass(row, base + rule.firstAt[-1 - code]);
                }
            }
        }

        private void lay(int[] row, int code) {
            if (row == null) {
                return;
            }
            if (laid < TEXT_NODES) {
                row[laid] = code;
            }
            laid++;
        }

        /** Opens each class once: what is in it has its numbers when it is met again. */
        private void numberVariables(int node) {
            left[0] = node;
            waiting = 1;
            for (int turn = 0; turn <= NODES && waiting > 0; turn++) {
                int root = classOf(left[--waiting]);
                if (isSeen[root]) {
                    continue;
                }
                isSeen[root] = true;
                if (symbolAt[root] == NONE) {
                    numbers[root] = numbered++;
                } else {
                    waiting += layParts(left, symbolAt[root]);
                }
            }
        }

        private void layClass(int[] row, int node) {
            left[0] = node;
            waiting = 1;
            for (int turn = 0; turn <= TEXT_NODES && waiting > 0; turn++) {
                int root = classOf(left[--waiting]);
                if (symbolAt[root] == NONE) {
                    lay(row, -1 - numbers[root]);
                } else {
                    lay(row, codes[symbolAt[root]]);
                    waiting += layParts(left, symbolAt[root]);
                }
            }
        }
    }

    /** Writes a term with its names. */
    private static final class Writer {
        final byte[] draft = new byte[WRITTEN_BYTES];
        private int length = 0;
        private final int[] open = new int[TEXT_NODES];
        private int depth = 0;

        /** How many bytes, or NONE for too many. Without names a variable is V and its number. */
        int draw(RuleBook book, int[] codes, int count, Names variables) {
            length = 0;
            depth = 0;
            for (int k = 0; k < count && length <= WRITTEN_BYTES; k++) {
                int code = codes[k];
                if (code >= 0) {
                    putName(book.symbols, code);
                } else if (variables != null) {
                    putName(variables, -1 - code);
                } else {
                    put('V');
                    putNumber(-1 - code);
                }
                putSigns(code < 0 ? 0 : book.parts[code]);
            }
            return length > WRITTEN_BYTES ? NONE : length;
        }

        private void putSigns(int parts) {
            if (parts > 0) {
                put('(');
                open[depth++] = parts;
                return;
            }
            for (; depth > 0; depth--) {
                if (--open[depth - 1] > 0) {
                    put(',');
                    return;
                }
                put(')');
            }
        }

        private void putName(Names names, int number) {
            long head = names.heads[number];
            for (int k = 0; k < 8 && head != 0; k++) {
                put((int) (head >>> 56));
                head <<= 8;
            }
            int tail = names.tails[number];
            for (int k = 0; k < 4 && tail != 0; k++) {
                put(tail >>> 24);
                tail <<= 8;
            }
        }

        /** A meeting has fewer than a hundred variables. */
        private void putNumber(int number) {
            if (number > 9) {
                put('0' + number / 10 % 10);
            }
            put('0' + number % 10);
        }

        private void put(int b) {
            if (length < WRITTEN_BYTES) {
                draft[length] = (byte) b;
            }
            length++;
        }
    }
}
