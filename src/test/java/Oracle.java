import java.util.ArrayList;
import java.util.HashMap;
import java.util.IdentityHashMap;
import java.util.LinkedHashMap;
import java.util.List;
import java.util.Map;

/**
 * The document once more, in the most literal way: trees, recursion, every order tried by itself,
 * every step looked for from the root. It shares nothing with the class that it is held against.
 */
final class Oracle {
    private static final int NONE = -1;

    /** A variable has no parts and a name with a capital, and so do variables of meetings. */
    static final class Tree {
        final String name;
        final List<Tree> parts;
        final long size;

        Tree(String name, List<Tree> parts) {
            this.name = name;
            this.parts = parts;
            long nodes = 1;
            for (Tree part : parts) {
                nodes = Math.min(1L << 40, nodes + part.size);
            }
            size = nodes;
        }

        boolean isVariable() {
            return Character.isUpperCase(name.charAt(0));
        }

        /** Only for trees that are not too large. */
        @Override
        public String toString() {
            if (parts.isEmpty()) {
                return name;
            }
            StringBuilder text = new StringBuilder(name).append('(');
            for (int k = 0; k < parts.size(); k++) {
                text.append(k == 0 ? "" : ",").append(parts.get(k));
            }
            return text.append(')').toString();
        }
    }

    private record Rule(Tree front, Tree other) {
    }

    private record Meeting(int i, int j, int before, Tree side0, Tree side1) {
    }

    private record Token(String text, int at, int side) {
    }

    private static final class Fault extends RuntimeException {
        private static final long serialVersionUID = 1L;
        final int at;

        Fault(int at) {
            this.at = at;
        }
    }

    private String tape = "";
    private int place = NONE;
    private List<Rule> rules = new ArrayList<>();
    private Map<String, Integer> symbols = new LinkedHashMap<>();
    private String result = null;
    private String written = "";
    private List<Meeting> found = null;

    int feed(int... words) {
        if (tape.length() + 20 > 4000) {
            return NONE;
        }
        StringBuilder more = new StringBuilder(tape);
        for (int word : words) {
            more.append((char) (word >>> 24)).append((char) (word >>> 16 & 255));
            more.append((char) (word >>> 8 & 255)).append((char) (word & 255));
        }
        tape = more.toString();
        return tape.length();
    }

    // Reading.

    private String text;
    private int next;
    private int side;
    private List<Token> names;
    private List<Tree> trees;
    private Map<Integer, Integer> partsAt;

    private Token peek() {
        int at = next;
        while (at < text.length() && " \t\n\r".indexOf(text.charAt(at)) >= 0) {
            at++;
        }
        if (at == text.length()) {
            return new Token("", at, side);
        }
        String rest = text.substring(at);
        String name = rest.replaceFirst("(?s)^([A-Za-z][A-Za-z0-9]*).*", "$1");
        if (rest.matches("(?s)[A-Za-z].*")) {
            if (name.length() > 12) {
                throw new Fault(at);
            }
            return new Token(name, at, side);
        }
        if ("(),=;".indexOf(rest.charAt(0)) < 0) {
            throw new Fault(at);
        }
        return new Token(rest.substring(0, 1), at, side);
    }

    private boolean isNext(String sign) {
        return peek().text.equals(sign);
    }

    private void take(String sign) {
        Token token = peek();
        if (!token.text.equals(sign)) {
            throw new Fault(token.at);
        }
        next = token.at + sign.length();
    }

    private Tree term(int others) {
        Token token = peek();
        if (token.text.isEmpty() || !Character.isLetter(token.text.charAt(0)) || others > 59) {
            throw new Fault(token.at);
        }
        next = token.at + token.text.length();
        names.add(token);
        List<Tree> parts = new ArrayList<>();
        if (!Character.isUpperCase(token.text.charAt(0)) && isNext("(")) {
            take("(");
            parts.add(term(others + 1));
            while (isNext(",")) {
                take(",");
                parts.add(term(others + 1));
            }
            take(")");
        }
        partsAt.put(token.at, parts.size());
        return new Tree(token.text, parts);
    }

    private void begin(int n) {
        text = tape.substring(0, n);
        tape = "";
        next = 0;
        side = 0;
        names = new ArrayList<>();
        trees = new ArrayList<>();
        partsAt = new HashMap<>();
        place = NONE;
    }

    private void end() {
        if (!peek().text.isEmpty()) {
            throw new Fault(peek().at);
        }
    }

    private void readSides(String between, String behind) {
        trees.add(term(0));
        take(between);
        side++;
        trees.add(term(0));
        if (!behind.isEmpty()) {
            take(behind);
            side++;
        }
    }

    int rules(int n) {
        if (n < 0 || n > tape.length()) {
            return NONE;
        }
        begin(n);
        rules = new ArrayList<>();
        symbols = new LinkedHashMap<>();
        result = null;
        found = null;
        try {
            while (!peek().text.isEmpty()) {
                readSides("=", ";");
            }
        } catch (Fault fault) {
            place = fault.at;
            return -2;
        }
        place = wrongRules();
        if (place != NONE) {
            symbols = new LinkedHashMap<>();
            return -3;
        }
        for (int k = 0; k < trees.size(); k += 2) {
            rules.add(new Rule(trees.get(k), trees.get(k + 1)));
        }
        return rules.size();
    }

    private int wrongRules() {
        Map<Integer, Integer> nodes = new HashMap<>();
        for (Token token : names) {
            int count = nodes.merge(token.side, 1, Integer::sum);
            boolean isVariable = Character.isUpperCase(token.text.charAt(0));
            boolean isWrong = count > 40 || token.side >= 40;
            if (isVariable) {
                isWrong |= token.side % 2 == 0 && trees.get(token.side).isVariable();
                isWrong |= token.side % 2 == 1 && !has(trees.get(token.side - 1), token.text);
            } else if (symbols.containsKey(token.text)) {
                isWrong |= !symbols.get(token.text).equals(partsAt.get(token.at));
            } else {
                isWrong |= symbols.size() == 6;
                symbols.put(token.text, partsAt.get(token.at));
            }
            if (isWrong) {
                return token.at;
            }
        }
        return NONE;
    }

    private static boolean has(Tree tree, String name) {
        if (tree.name.equals(name)) {
            return true;
        }
        for (Tree part : tree.parts) {
            if (has(part, name)) {
                return true;
            }
        }
        return false;
    }

    private int wrongTerm() {
        for (Token token : names) {
            boolean isVariable = Character.isUpperCase(token.text.charAt(0));
            if (!isVariable && !partsAt.get(token.at).equals(symbols.get(token.text))) {
                return token.at;
            }
        }
        return NONE;
    }

    int place() {
        return place;
    }

    int symbols() {
        return symbols.size();
    }

    int parts(int symbol) {
        return symbol < 0 || symbol >= symbols.size() ? NONE : new ArrayList<>(symbols.values()).get(symbol);
    }

    // Orders.

    private List<String> theOrder() {
        return firstOrder(new ArrayList<>(), new ArrayList<>(symbols.keySet()));
    }

    private List<String> firstOrder(List<String> row, List<String> left) {
        if (left.isEmpty()) {
            for (Rule rule : rules) {
                if (!isAbove(rule.front, rule.other, row, new HashMap<>())) {
                    return null;
                }
            }
            return row;
        }
        for (String symbol : left) {
            List<String> longer = new ArrayList<>(row);
            longer.add(symbol);
            List<String> others = new ArrayList<>(left);
            others.remove(symbol);
            List<String> order = firstOrder(longer, others);
            if (order != null) {
                return order;
            }
        }
        return null;
    }

    private static boolean isAbove(Tree s, Tree t, List<String> row, Map<String, Boolean> known) {
        String key = s + ">" + t;
        Boolean before = known.get(key);
        if (before == null) {
            before = isAboveNow(s, t, row, known);
            known.put(key, before);
        }
        return before;
    }

    private static boolean isAboveNow(Tree s, Tree t, List<String> row, Map<String, Boolean> known) {
        if (t.isVariable()) {
            return has(s, t.name) && !s.name.equals(t.name);
        }
        if (s.isVariable()) {
            return false;
        }
        for (Tree part : s.parts) {
            if (part.toString().equals(t.toString()) || isAbove(part, t, row, known)) {
                return true;
            }
        }
        for (Tree part : t.parts) {
            if (!isAbove(s, part, row, known)) {
                return false;
            }
        }
        if (!s.name.equals(t.name)) {
            return row.indexOf(s.name) < row.indexOf(t.name);
        }
        for (int k = 0; k < s.parts.size(); k++) {
            if (!s.parts.get(k).toString().equals(t.parts.get(k).toString())) {
                return isAbove(s.parts.get(k), t.parts.get(k), row, known);
            }
        }
        return false;
    }

    int order(int at) {
        List<String> order = theOrder();
        if (order == null || at < 0 || at >= order.size()) {
            return NONE;
        }
        return new ArrayList<>(symbols.keySet()).indexOf(order.get(at));
    }

    // Reducing.

    private static boolean match(Tree front, Tree tree, Map<String, Tree> put) {
        if (front.isVariable()) {
            Tree known = put.putIfAbsent(front.name, tree);
            return known == null || known.toString().equals(tree.toString());
        }
        if (!front.name.equals(tree.name)) {
            return false;
        }
        for (int k = 0; k < front.parts.size(); k++) {
            if (!match(front.parts.get(k), tree.parts.get(k), put)) {
                return false;
            }
        }
        return true;
    }

    private static Tree fill(Tree tree, Map<String, Tree> put) {
        if (tree.isVariable()) {
            return put.get(tree.name);
        }
        List<Tree> parts = new ArrayList<>();
        for (Tree part : tree.parts) {
            parts.add(fill(part, put));
        }
        return new Tree(tree.name, parts);
    }

    /** The term after a step; null when it is normal. */
    private Tree step(Tree tree) {
        for (int k = 0; k < tree.parts.size(); k++) {
            Tree part = step(tree.parts.get(k));
            if (part != null) {
                List<Tree> parts = new ArrayList<>(tree.parts);
                parts.set(k, part);
                return new Tree(tree.name, parts);
            }
        }
        if (tree.isVariable()) {
            return null;
        }
        for (Rule rule : rules) {
            Map<String, Tree> put = new HashMap<>();
            if (match(rule.front, tree, put)) {
                return fill(rule.other, put);
            }
        }
        return null;
    }

    private int steps;

    /** What a term comes to; null when that is refused. */
    private Tree normal(Tree tree) {
        steps = 0;
        Tree now = tree;
        while (now.size <= 1000) {
            Tree then = step(now);
            if (then == null) {
                return now;
            }
            if (steps == 2000) {
                return null;
            }
            steps++;
            now = then;
        }
        return null;
    }

    int reduce(int n) {
        if (n < 0 || n > tape.length()) {
            return NONE;
        }
        begin(n);
        result = null;
        try {
            trees.add(term(0));
            end();
        } catch (Fault fault) {
            place = fault.at;
            return -2;
        }
        place = wrongTerm();
        if (place != NONE) {
            return -3;
        }
        Tree tree = normal(trees.get(0));
        if (tree == null) {
            return -4;
        }
        result = tree.toString();
        return steps;
    }

    int same(int n) {
        if (n < 0 || n > tape.length()) {
            return NONE;
        }
        begin(n);
        try {
            readSides("=", "");
            end();
        } catch (Fault fault) {
            place = fault.at;
            return -2;
        }
        place = wrongTerm();
        if (place != NONE) {
            return -3;
        }
        Tree one = normal(trees.get(0));
        Tree two = normal(trees.get(1));
        if (one == null || two == null) {
            return -4;
        }
        return one.toString().equals(two.toString()) ? 1 : 0;
    }

    // Meetings.

    private static Tree rename(Tree tree, String mark) {
        List<Tree> parts = new ArrayList<>();
        for (Tree part : tree.parts) {
            parts.add(rename(part, mark));
        }
        return new Tree(tree.isVariable() ? tree.name + mark : tree.name, parts);
    }

    private static Tree lookUp(Tree tree, Map<String, Tree> put) {
        Tree now = tree;
        while (now.isVariable() && put.containsKey(now.name)) {
            now = put.get(now.name);
        }
        return now;
    }

    private static boolean unify(Tree one, Tree two, Map<String, Tree> put) {
        Tree a = lookUp(one, put);
        Tree b = lookUp(two, put);
        if (a.isVariable() && b.isVariable() && a.name.equals(b.name)) {
            return true;
        }
        if (a.isVariable()) {
            put.put(a.name, b);
            return !isIn(a.name, b, put);
        }
        if (b.isVariable()) {
            return unify(b, a, put);
        }
        if (!a.name.equals(b.name)) {
            return false;
        }
        for (int k = 0; k < a.parts.size(); k++) {
            if (!unify(a.parts.get(k), b.parts.get(k), put)) {
                return false;
            }
        }
        return true;
    }

    private static boolean isIn(String name, Tree tree, Map<String, Tree> put) {
        if (tree.isVariable()) {
            if (tree.name.equals(name)) {
                return true;
            }
            return put.containsKey(tree.name) && isIn(name, put.get(tree.name), put);
        }
        for (Tree part : tree.parts) {
            if (isIn(name, part, put)) {
                return true;
            }
        }
        return false;
    }

    /** All put in; what is put in for a variable is made once, so that large terms stay small here. */
    private static Tree fillAll(Tree tree, Map<String, Tree> put, Map<String, Tree> made) {
        if (tree.isVariable()) {
            Tree known = made.get(tree.name);
            if (known == null) {
                known = put.containsKey(tree.name) ? fillAll(put.get(tree.name), put, made) : tree;
                made.put(tree.name, known);
            }
            return known;
        }
        List<Tree> parts = new ArrayList<>();
        for (Tree part : tree.parts) {
            parts.add(fillAll(part, put, made));
        }
        return new Tree(tree.name, parts);
    }

    private static void collect(Tree tree, List<Tree> all) {
        all.add(tree);
        for (Tree part : tree.parts) {
            collect(part, all);
        }
    }

    private static Tree replace(Tree tree, Tree old, Tree instead) {
        if (tree == old) {
            return instead;
        }
        List<Tree> parts = new ArrayList<>();
        for (Tree part : tree.parts) {
            parts.add(replace(part, old, instead));
        }
        return new Tree(tree.name, parts);
    }

    private static void nameVariables(Tree tree, Map<String, Tree> names, IdentityHashMap<Tree, Boolean> seen) {
        if (seen.put(tree, true) != null) {
            return;
        }
        if (tree.isVariable() && !names.containsKey(tree.name)) {
            names.put(tree.name, new Tree("V" + names.size(), List.of()));
        }
        for (Tree part : tree.parts) {
            nameVariables(part, names, seen);
        }
    }

    private static Tree renamed(Tree tree, Map<String, Tree> names, IdentityHashMap<Tree, Tree> made) {
        Tree known = made.get(tree);
        if (known == null) {
            List<Tree> parts = new ArrayList<>();
            for (Tree part : tree.parts) {
                parts.add(renamed(part, names, made));
            }
            known = tree.isVariable() ? names.get(tree.name) : new Tree(tree.name, parts);
            made.put(tree, known);
        }
        return known;
    }

    private List<Meeting> found() {
        if (found == null) {
            found = new ArrayList<>();
            for (int i = 0; i < rules.size(); i++) {
                findOf(i);
            }
        }
        return found;
    }

    private void findOf(int i) {
        Tree front = rename(rules.get(i).front, "x");
        List<Tree> parts = new ArrayList<>();
        collect(front, parts);
        for (int before = 0; before < parts.size(); before++) {
            if (parts.get(before).isVariable()) {
                continue;
            }
            for (int j = 0; j < rules.size() && found.size() < 1000; j++) {
                Map<String, Tree> put = new HashMap<>();
                boolean mayMeet = before > 0 || j < i;
                if (mayMeet && unify(parts.get(before), rename(rules.get(j).front, "y"), put)) {
                    found.add(make(i, j, before, parts.get(before), front, put));
                }
            }
        }
    }

    private Meeting make(int i, int j, int before, Tree part, Tree front, Map<String, Tree> put) {
        Map<String, Tree> made = new HashMap<>();
        Tree side0 = fillAll(replace(front, part, rename(rules.get(j).other, "y")), put, made);
        Tree side1 = fillAll(rename(rules.get(i).other, "x"), put, made);
        Map<String, Tree> names = new LinkedHashMap<>();
        IdentityHashMap<Tree, Boolean> seen = new IdentityHashMap<>();
        nameVariables(side0, names, seen);
        nameVariables(side1, names, seen);
        IdentityHashMap<Tree, Tree> done = new IdentityHashMap<>();
        return new Meeting(i, j, before, renamed(side0, names, done), renamed(side1, names, done));
    }

    int meetings() {
        return found().size();
    }

    private Meeting at(int k) {
        return k < 0 || k >= found().size() ? null : found().get(k);
    }

    int meeting(int k, int what) {
        Meeting meeting = at(k);
        if (meeting == null || what < 0 || what > 2) {
            return NONE;
        }
        return what == 0 ? meeting.i : what == 1 ? meeting.j : meeting.before;
    }

    int closes(int k) {
        Meeting meeting = at(k);
        if (meeting == null) {
            return NONE;
        }
        Tree one = normal(meeting.side0);
        Tree two = normal(meeting.side1);
        if (one == null || two == null) {
            return -4;
        }
        return one.toString().equals(two.toString()) ? 1 : 0;
    }

    int isSure() {
        if (theOrder() == null) {
            return NONE;
        }
        for (int k = 0; k < found().size(); k++) {
            if (closes(k) != 1) {
                return 0;
            }
        }
        return 1;
    }

    int write(int k, int which, boolean reduced) {
        Meeting meeting = at(k);
        if (meeting == null || which < 0 || which > 1) {
            return NONE;
        }
        Tree tree = which == 0 ? meeting.side0 : meeting.side1;
        if (reduced) {
            tree = normal(tree);
            if (tree == null) {
                return -4;
            }
        }
        return tree.size > 4000 ? NONE : keep(tree.toString());
    }

    private int keep(String text) {
        if (text == null || text.length() > 4000) {
            return NONE;
        }
        written = text;
        return text.length();
    }

    int result() {
        return keep(result);
    }

    int written(int i) {
        return i < 0 || i >= written.length() ? NONE : written.charAt(i);
    }
}
