import java.util.ArrayList;
import java.util.Collections;
import java.util.List;
import java.util.Random;

/** All promises at once: runs of made-up calls, each answer held against the Oracle's. */
public final class OracleTest {
    private static final Check CHECK = new Check("OracleTest");
    private static final String[] SYMBOLS = {"f", "g", "h", "a", "b", "c", "long1"};
    private static final String[] VARIABLES = {"X", "Y", "Z", "Abc9"};
    /** Rules with which there is much to do; f has 2 parts here, g and h one. */
    private static final String[] KNOWN = {
        "f(a,Y)=Y;f(g(X),Y)=g(f(X,Y));",
        "f(a,X)=X;f(X,a)=X;f(g(X),X)=a;f(X,g(X))=a;f(f(X,Y),Z)=f(X,f(Y,Z));g(a)=a;g(g(X))=X;"
            + "f(X,f(g(X),Y))=Y;f(g(X),f(X,Y))=Y;g(f(X,Y))=f(g(Y),g(X));",
        "f(f(X,Y),Z)=f(X,f(Y,Z));f(X,X)=X;",
        "g(g(X))=h(X);h(h(X))=g(X);g(h(X))=X;h(g(X))=X;",
        "f(a,X)=a;f(b,X)=X;g(a)=b;g(b)=a;h(X)=f(X,g(X));",
        "h(a)=a;h(g(X))=g(g(h(X)));f(a,Y)=Y;f(g(X),Y)=f(X,h(Y));",
        "f(X,g(Y))=g(f(X,Y));f(g(X),Y)=g(g(f(X,Y)));f(a,a)=b;g(b)=c;",
        "h(f(X,Y))=f(h(Y),h(X));h(h(X))=X;f(X,a)=X;g(X)=f(X,X);",
    };

    private final Random random;
    private final TermRules x = new TermRules();
    private final Oracle oracle = new Oracle();
    private final int[] parts = new int[SYMBOLS.length];
    private final int run;
    private int calls = 0;
    /** The symbols that terms are made of. */
    private int[] used = {0, 1, 2, 3, 4, 5};

    private OracleTest(int run) {
        this.run = run;
        random = new Random(run);
        for (int k = 0; k < parts.length; k++) {
            parts[k] = k < 3 ? 1 + random.nextInt(k == 0 ? 3 : 2) : k == 6 ? random.nextInt(3) : 0;
        }
    }

    public static void main(String[] args) {
        int runs = args.length > 0 ? Integer.parseInt(args[0]) : 1500;
        int first = args.length > 1 ? Integer.parseInt(args[1]) : 0;
        for (int run = first; run < first + runs; run++) {
            new OracleTest(run).play();
        }
        CHECK.finish();
    }

    private void due(String call, long got, long want) {
        calls++;
        CHECK.due("run " + run + ", call " + calls + ": " + call, got, want);
    }

    private void play() {
        look();
        int rounds = 1 + random.nextInt(3);
        for (int round = 0; round < rounds; round++) {
            takeRules();
            for (int k = 0; k < 6; k++) {
                switch (random.nextInt(6)) {
                    case 0, 1 -> takeTerm();
                    case 2 -> takePair();
                    case 3 -> look();
                    case 4 -> lookAtMeetings();
                    default -> lookAtOrder();
                }
            }
        }
    }

    private void feed(String text) {
        for (int from = 0; from < text.length(); from += 20) {
            int[] w = new int[5];
            for (int k = 0; k < 5; k++) {
                w[k] = Check.four(text, from + 4 * k);
            }
            due("feed", x.feed(w[0], w[1], w[2], w[3], w[4]), oracle.feed(w));
        }
    }

    private int sometimesOff(int n) {
        return random.nextInt(20) == 0 ? random.nextInt(n + 60) - 20 : n;
    }

    private void takeRules() {
        if (random.nextInt(3) == 0) {
            takeKnown();
            return;
        }
        StringBuilder text = new StringBuilder();
        int count = random.nextInt(12) == 0 ? random.nextInt(23) : random.nextInt(6);
        int depth = 1 + random.nextInt(random.nextInt(8) == 0 ? 5 : 3);
        used = everySymbol(2 + random.nextInt(random.nextInt(10) == 0 ? 6 : 5));
        for (int k = 0; k < count; k++) {
            String front = term(depth);
            while (Character.isUpperCase(front.charAt(0)) && random.nextInt(40) > 0) {
                front = term(depth);
            }
            text.append(front).append('=').append(other(front, depth)).append(';');
        }
        takeRules(text.toString());
    }

    /** Some of the known rules, in some order, with other rules between now and then. */
    private void takeKnown() {
        parts[0] = 2;
        parts[1] = 1;
        parts[2] = 1;
        used = everySymbol(6);
        List<String> rules = new ArrayList<>(List.of(KNOWN[random.nextInt(KNOWN.length)].split(";")));
        if (random.nextBoolean()) {
            Collections.shuffle(rules, random);
        }
        if (random.nextInt(3) == 0) {
            rules.remove(random.nextInt(rules.size()));
        }
        if (random.nextInt(3) == 0) {
            String front = term(3);
            if (!Character.isUpperCase(front.charAt(0))) {
                rules.add(random.nextInt(rules.size() + 1), front + "=" + other(front, 2));
            }
        }
        takeRules(String.join(";", rules) + ";");
    }

    private static int[] everySymbol(int count) {
        int[] all = new int[count];
        for (int k = 0; k < count; k++) {
            all[k] = k;
        }
        return all;
    }

    private void takeRules(String text) {
        String all = spoil(text);
        feed(all);
        int n = sometimesOff(all.length());
        due("rules(" + n + ") '" + all + "'", x.rules(n), oracle.rules(n));
        due("place()", x.place(), oracle.place());
        List<Integer> known = new ArrayList<>();
        for (int k = 0; k < SYMBOLS.length; k++) {
            if (all.contains(SYMBOLS[k])) {
                known.add(k);
            }
        }
        boolean isAny = known.isEmpty() || random.nextInt(10) == 0;
        used = isAny ? everySymbol(6) : known.stream().mapToInt(k -> k).toArray();
    }

    private String other(String front, int depth) {
        for (int tries = 0; tries < 30; tries++) {
            String other = term(random.nextInt(depth + 1));
            boolean isGood = true;
            for (String variable : VARIABLES) {
                isGood &= !other.contains(variable) || front.contains(variable);
            }
            if (isGood || random.nextInt(200) == 0) {
                return other;
            }
        }
        return "a";
    }

    private String term(int depth) {
        int k = used[random.nextInt(used.length)];
        if (depth == 0 || random.nextInt(6) == 0) {
            for (int tries = 0; tries < 4 && parts[k] > 0; tries++) {
                k = used[random.nextInt(used.length)];
            }
            boolean isVariable = parts[k] > 0 || random.nextInt(2) == 0;
            return isVariable ? VARIABLES[random.nextInt(VARIABLES.length)] : SYMBOLS[k];
        }
        if (parts[k] == 0) {
            return SYMBOLS[k];
        }
        StringBuilder text = new StringBuilder(SYMBOLS[k]).append('(');
        for (int p = 0; p < parts[k]; p++) {
            text.append(p == 0 ? "" : ",").append(term(depth - 1));
        }
        return text.append(')').toString();
    }

    /** Blanks here and there; now and then a byte more, less or another. */
    private String spoil(String text) {
        StringBuilder bytes = new StringBuilder();
        boolean hasBlanks = random.nextInt(4) == 0;
        for (int k = 0; k < text.length(); k++) {
            boolean isInName = k > 0 && Character.isLetterOrDigit(text.charAt(k))
                    && Character.isLetterOrDigit(text.charAt(k - 1));
            if (hasBlanks && !isInName && random.nextInt(4) == 0) {
                bytes.append(" \t\n\r".charAt(random.nextInt(4)));
            }
            bytes.append(text.charAt(k));
        }
        if (random.nextInt(8) == 0 && bytes.length() > 0) {
            int at = random.nextInt(bytes.length());
            char other = "(),=;aAfX1?\u00e9 z".charAt(random.nextInt(14));
            switch (random.nextInt(3)) {
                case 0 -> bytes.insert(at, other);
                case 1 -> bytes.deleteCharAt(at);
                default -> bytes.setCharAt(at, other);
            }
        }
        return bytes.toString();
    }

    private void takeTerm() {
        String text = spoil(term(random.nextInt(8)));
        feed(text);
        int n = sometimesOff(text.length());
        due("reduce(" + n + ") '" + text + "'", x.reduce(n), oracle.reduce(n));
        due("place()", x.place(), oracle.place());
        due("result()", x.result(), oracle.result());
        lookAtWritten();
    }

    private void takePair() {
        String one = term(random.nextInt(6));
        String two = random.nextInt(4) == 0 ? one : term(random.nextInt(6));
        String text = spoil(one + "=" + two);
        feed(text);
        int n = sometimesOff(text.length());
        due("same(" + n + ") '" + text + "'", x.same(n), oracle.same(n));
        due("place()", x.place(), oracle.place());
        due("result()", x.result(), oracle.result());
    }

    private void look() {
        due("place()", x.place(), oracle.place());
        due("symbols()", x.symbols(), oracle.symbols());
        for (int k = -1; k < 8; k++) {
            due("parts(" + k + ")", x.parts(k), oracle.parts(k));
        }
        due("result()", x.result(), oracle.result());
        lookAtWritten();
    }

    private void lookAtOrder() {
        for (int k = -1; k < 7; k++) {
            due("order(" + k + ")", x.order(k), oracle.order(k));
        }
        due("isSure()", x.isSure(), oracle.isSure());
    }

    private void lookAtMeetings() {
        int count = oracle.meetings();
        due("meetings()", x.meetings(), count);
        for (int tries = 0; tries < 6; tries++) {
            int k = random.nextInt(10) == 0 ? random.nextInt(1200) - 100 : random.nextInt(count + 1);
            for (int what = -1; what < 4; what++) {
                due("meeting(" + k + ", " + what + ")", x.meeting(k, what), oracle.meeting(k, what));
            }
            due("closes(" + k + ")", x.closes(k), oracle.closes(k));
            int side = random.nextInt(12) == 0 ? random.nextInt(5) - 2 : random.nextInt(2);
            boolean reduced = random.nextBoolean();
            due("write(" + k + ", " + side + ", " + reduced + ")",
                    x.write(k, side, reduced), oracle.write(k, side, reduced));
            lookAtWritten();
        }
    }

    private void lookAtWritten() {
        boolean isSame = true;
        for (int i = -1; i == -1 || oracle.written(i) != -1; i++) {
            isSame &= x.written(i) == oracle.written(i) && x.written(i + 1) == oracle.written(i + 1);
        }
        due("written as due", isSame ? 1 : 0, 1);
    }
}
