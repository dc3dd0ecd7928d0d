/** Section "Terms": what is WRONG with a text without a fault, and at which token; how symbols are numbered. */
public final class WrongEdgesTest {
    private static final Check CHECK = new Check("WrongEdgesTest");

    public static void main(String[] args) {
        otherPartsInRules();
        otherPartsInTerms();
        partsAreThoseOfTheNewRules();
        sevenSymbols();
        variableBehind();
        variableInFront();
        twentyOneRules();
        fortyOneNodes();
        eachTimeANode();
        symbolsThatTheRulesDoNotHave();
        limitsOfRulesAreNoneOfTerms();
        firstOfSeveral();
        onlyWithoutAFault();
        numberedAsRead();
        CHECK.finish();
    }

    private static String with(String symbol, int parts) {
        return parts == 0 ? symbol : symbol + "(" + "a,".repeat(parts - 1) + "a)";
    }

    /** "a symbol with another number of parts than where it stood first (in the rules, when they are read". */
    private static void otherPartsInRules() {
        for (int first = 0; first <= 4; first++) {
            for (int then = 0; then <= 4; then++) {
                boolean isSame = first == then;
                String f = with("f", first);
                String g = with("f", then);
                CHECK.rulesDue(f + "=" + g + ";", isSame ? 1 : -3, isSame ? -1 : f.length() + 1);
                CHECK.rulesDue(f + "=a;" + g + "=a;", isSame ? 2 : -3, isSame ? -1 : f.length() + 3);
                CHECK.rulesDue(f + "=a;a=" + g + ";", isSame ? 2 : -3, isSame ? -1 : f.length() + 5);
                CHECK.rulesDue("h(" + f + "," + g + ")=a;", isSame ? 1 : -3, isSame ? -1 : f.length() + 3);
                CHECK.rulesDue("a=h(" + f + "," + g + ");", isSame ? 1 : -3, isSame ? -1 : f.length() + 5);
                // Where it stood first counts, not where it stood last.
                CHECK.rulesDue("h(" + f + "," + f + "," + g + ")=a;", isSame ? 1 : -3, isSame ? -1 : 2 * f.length() + 4);
            }
        }
        CHECK.rulesDue("f(f)=a;", -3, 2);
        CHECK.rulesDue("f(f(a),a)=a;", -3, 2);
        CHECK.rulesDue("f(f(a,a),a)=a;", 1, -1);
        CHECK.rulesDue("a=b; a (b)=b;", -3, 5);
    }

    /** "for a term, in the rules". */
    private static void otherPartsInTerms() {
        for (int first = 0; first <= 4; first++) {
            String rules = with("f", first) + "=a;";
            for (int then = 0; then <= 4; then++) {
                boolean isSame = first == then;
                String f = with("f", then);
                CHECK.termDue(rules, f, isSame ? 1 : -3, isSame ? -1 : 0);
                CHECK.termDue("h(X)=X;" + rules, " h( " + f + ")", isSame ? 2 : -3, isSame ? -1 : 4);
                CHECK.pairDue(rules, f + "=a", isSame ? 1 : -3, isSame ? -1 : 0);
                CHECK.pairDue(rules, "a=" + f, isSame ? 1 : -3, isSame ? -1 : 2);
                // Where it stood first in the term is nothing to it.
                CHECK.pairDue(rules, f + "=" + f, isSame ? 1 : -3, isSame ? -1 : 0);
            }
        }
    }

    /** "in the rules, when they are read": those that were before are nothing to the new ones. */
    private static void partsAreThoseOfTheNewRules() {
        TermRules x = Check.with("f(X)=a;");
        CHECK.due("f with two parts", Check.rules(x, "f(X,Y)=X;"), 1);
        CHECK.due("a is gone", Check.reduce(x, "a"), -3);
        CHECK.due("f with one part", Check.reduce(x, "f(Q)"), -3);
        CHECK.due("f with two parts", Check.reduce(x, "f(Q,R)"), 1);
        CHECK.due("rules with a wrong f", Check.rules(x, "f=f(f);"), -3);
        CHECK.due("f without parts", Check.reduce(x, "f"), -3);
        CHECK.due("f with two parts", Check.reduce(x, "f(Q,R)"), -3);
        CHECK.due("f without parts", Check.rules(x, "f=g;"), 1);
        CHECK.due("f without parts", Check.reduce(x, "f"), 1);
    }

    /** "a 7th symbol of the rules". */
    private static void sevenSymbols() {
        String[] six = {"a=b;c=d;e=f;", "a=w(b,c,d,e);", "w(a,b,c,d,e)=a;", "a=b;a=c;a=d;a=e;a=f;", "p(q(r(s(t(u(X))))))=X;"};
        for (String rules : six) {
            int n = rules.length();
            int taken = rules.replaceAll("[^;]", "").length();
            CHECK.rulesDue(rules, taken, -1);
            CHECK.due("six symbols of " + rules, Check.with(rules).symbols(), 6);
            String known = rules.startsWith("p") ? "u(X)" : "a";
            CHECK.rulesDue(rules + known + "=" + known + ";", taken + 1, -1);
            CHECK.rulesDue(rules + "z=" + known + ";", -3, n);
            CHECK.rulesDue(rules + known + "= z;", -3, n + known.length() + 2);
            CHECK.rulesDue(rules + "z(X)=X;", -3, n);
        }
        CHECK.rulesDue("w(a,b,c,d,e,f)=a;", -3, 12);
        CHECK.rulesDue("a=w(b,c,d,e,f);", -3, 12);
        CHECK.rulesDue("p(q(r(s(t(u(v(X)))))))=X;", -3, 12);
        TermRules x = Check.with("w(a,b,c,d,e)=a;");
        CHECK.due("seven symbols", Check.rules(x, "w(a,b,c,d,e,f)=a;"), -3);
        CHECK.due("then there are none", x.symbols(), 0);
    }

    /** "a variable behind = that its rule has not in front of it". */
    private static void variableBehind() {
        CHECK.rulesDue("f(X)=X;", 1, -1);
        CHECK.rulesDue("f(X)=Y;", -3, 5);
        CHECK.rulesDue("a=X;", -3, 2);
        CHECK.rulesDue("f(g(h(X)))=f(f(X));", 1, -1);
        CHECK.rulesDue("f(g(h(X)))=f(f(Y));", -3, 15);
        CHECK.rulesDue("f(X,Y)=f(Y,f(X,Y));", 1, -1);
        CHECK.rulesDue("f(X,Y)=f(Y,f(X,Z));", -3, 15);
        // Its rule has it, not one before and not one behind.
        CHECK.rulesDue("f(X)=a;g(Y)=X;", -3, 12);
        CHECK.rulesDue("g(Y)=X;f(X)=a;", -3, 5);
        CHECK.rulesDue("f(X)=X;f(Y)=Y;", 2, -1);
        // Behind = is not in front of it.
        CHECK.rulesDue("f(X)=f(X);a=X;", -3, 12);
        CHECK.rulesDue("a=f(X,X);", -3, 4);
        CHECK.rulesDue("f(Abcdefghijkl)=Abcdefghijkm;", -3, 16);
        CHECK.rulesDue("f(Ab)=A;", -3, 6);
        CHECK.rulesDue("f(Ab)=AB;", -3, 6);
    }

    /** "a variable that is all that stands in front of =". */
    private static void variableInFront() {
        CHECK.rulesDue("X=a;", -3, 0);
        CHECK.rulesDue("X=X;", -3, 0);
        CHECK.rulesDue(" \n X = f(X);", -3, 3);
        CHECK.rulesDue("f(X)=X;", 1, -1);
        CHECK.rulesDue("f(X)=X; X=f(X);", -3, 8);
        CHECK.rulesDue("a=b;X=a;", -3, 4);
        CHECK.rulesDue("x=a;", 1, -1);
        CHECK.rulesDue("a=b;a=b;a=b;a=b;a=b;a=b;a=b;a=b;a=b;a=b;a=b;a=b;a=b;a=b;a=b;a=b;a=b;a=b;a=b;X=b;", -3, 76);
    }

    /** "the first token of a 21st rule". */
    private static void twentyOneRules() {
        String[] rules = {"a=b;", " a = b ; ", "f(X)=g(X,X);", "f(g(X),a)=X;\n"};
        for (String rule : rules) {
            int at = rule.length() * 20 + (rule.startsWith(" ") ? 1 : 0);
            for (int count = 18; count <= 24; count++) {
                boolean isTaken = count <= 20;
                CHECK.rulesDue(rule.repeat(count), isTaken ? count : -3, isTaken ? -1 : at);
            }
            CHECK.rulesDue(rule.repeat(20) + " \t ", 20, -1);
            CHECK.rulesDue(rule.repeat(20) + "   zz=zy;", -3, rule.length() * 20 + 3);
            CHECK.rulesDue(rule.repeat(20) + "X=X;", -3, rule.length() * 20);
        }
        CHECK.rulesDue("a=b;".repeat(1000), -3, 80);
        CHECK.rulesDue("a=b;".repeat(999) + "a=b", -2, 3999);
    }

    /** "the token with which a side of a rule has 41 nodes". */
    private static void fortyOneNodes() {
        for (int nodes = 38; nodes <= 44; nodes++) {
            boolean isTaken = nodes <= 40;
            String flat = "f(" + "X,".repeat(nodes - 2) + "X)";
            CHECK.rulesDue(flat + "=a;", isTaken ? 1 : -3, isTaken ? -1 : 80);
            CHECK.rulesDue("g(X)=" + flat + ";", isTaken ? 1 : -3, isTaken ? -1 : 85);
            CHECK.rulesDue(flat + "=" + flat + ";", isTaken ? 1 : -3, isTaken ? -1 : 80);
            CHECK.rulesDue("b=b;" + flat + "=" + flat + ";", isTaken ? 2 : -3, isTaken ? -1 : 84);
            String deep = Check.nest("s", nodes - 1, "z");
            CHECK.rulesDue(deep + "=z;", isTaken ? 1 : -3, isTaken ? -1 : 80);
            CHECK.rulesDue("z=" + deep + ";", isTaken ? 1 : -3, isTaken ? -1 : 82);
            CHECK.rulesDue("z=z; " + deep + " = " + deep + ";", isTaken ? 2 : -3, isTaken ? -1 : 85);
            // Symbols and variables, parts within parts.
            String mixed = "f(a,g(X,a),b" + ",X".repeat(nodes - 6) + ")";
            CHECK.rulesDue(mixed + "=a;", isTaken ? 1 : -3, isTaken ? -1 : 81);
        }
        CHECK.rulesDue("f(" + "X,".repeat(1000) + "X)=a;", -3, 80);
    }

    /** "each symbol and variable, each time it stands there, is one": one variable or many, it is the same. */
    private static void eachTimeANode() {
        StringBuilder many = new StringBuilder("f(V0");
        for (int k = 1; k < 39; k++) {
            many.append(",V").append(k);
        }
        CHECK.rulesDue(many + ")=f(" + "V38,".repeat(38) + "V38);", 1, -1);
        CHECK.rulesDue(many + ",V39)=a;", -3, many.length() + 1);
        CHECK.rulesDue(many + ",V0)=a;", -3, many.length() + 1);
        CHECK.rulesDue(many + ")=g(" + "V38,".repeat(39) + "V38);", -3, many.length() + 4 + 39 * 4);
    }

    /** "a term's symbol that the rules don't have". */
    private static void symbolsThatTheRulesDoNotHave() {
        String rules = "f(X,a)=X;";
        CHECK.termDue(rules, "a", 0, -1);
        CHECK.termDue(rules, "b", -3, 0);
        CHECK.termDue(rules, "f(a,b)", -3, 4);
        CHECK.termDue(rules, "f( b,c)", -3, 3);
        CHECK.termDue(rules, "b(a)", -3, 0);
        CHECK.termDue(rules, "aa", -3, 0);
        CHECK.termDue(rules, "f(a,f(X,x))", -3, 8);
        CHECK.pairDue(rules, "a=b", -3, 2);
        CHECK.pairDue(rules, "b=a", -3, 0);
        CHECK.pairDue(rules, "b=b", -3, 0);
        CHECK.termDue("", "a", -3, 0);
        CHECK.termDue("", "X", 0, -1);
        // A symbol behind = is one of the rules, too.
        CHECK.termDue("f(X)=g(X,c);", "g(c,Q)", 0, -1);
    }

    /** What is wrong with a rule only is not wrong with a term. */
    private static void limitsOfRulesAreNoneOfTerms() {
        String rules = "f(X,Y)=g(X);";
        // As many variables as one likes, new ones behind = too, and a side that is one alone.
        CHECK.pairDue(rules, "g(X)=g(Y)", 0, -1);
        CHECK.pairDue(rules, "X=g(X)", 0, -1);
        CHECK.pairDue(rules, "X=X", 1, -1);
        CHECK.pairDue(rules, "X=Y", 0, -1);
        for (int nodes = 40; nodes <= 42; nodes++) {
            String deep = Check.nest("g", nodes - 1, "Q");
            CHECK.termDue(rules, deep, 0, -1);
            CHECK.pairDue(rules, deep + "=" + deep, 1, -1);
        }
        StringBuilder many = new StringBuilder("V0");
        for (int k = 1; k <= 59; k++) {
            many.insert(0, "f(").append(",V").append(k).append(')');
        }
        CHECK.termDue(rules, many.toString(), 59, -1);
        ownVariables();
    }

    /** A term has its own variables: those of the terms before it are nothing to it, many as they may be. */
    private static void ownVariables() {
        TermRules x = Check.with("w(" + "X,".repeat(38) + "X)=a;");
        CHECK.due("1287 variables", Check.reduce(x, manyVariables(33, 1)), -4);
        String second = manyVariables(24, 2);
        CHECK.due("936 others", Check.reduce(x, second), 0);
        CHECK.due("their names", Check.result(x), second);
    }

    /** One w of w's, so many of them with 39 variables each, whose names have one or two bytes behind the first. */
    private static String manyVariables(int ws, int more) {
        String bytes = "0123456789abcdefghijklmnopqrstuvwxyzABCDEFGHIJKLMNOPQRSTUVWXYZ";
        StringBuilder text = new StringBuilder("w(");
        for (int k = 0; k < ws * 39; k++) {
            text.append(k % 39 == 0 ? "w(" : "").append((char) ('A' + k / 62));
            text.append(String.valueOf(bytes.charAt(k % 62)).repeat(more));
            text.append(k % 39 == 38 ? ")," : ",");
        }
        return text.append("a,".repeat(38 - ws)).append("a)").toString();
    }

    /** "at the first token of these": as they are read, whichever of these it is. */
    private static void firstOfSeveral() {
        CHECK.rulesDue("f(X)=f;X=a;a=Y;", -3, 5);
        CHECK.rulesDue("X=f(X);f=a;", -3, 0);
        CHECK.rulesDue("f(a)=Y;f=a;", -3, 5);
        CHECK.rulesDue("f(a)=f(Y,a);", -3, 5);
        CHECK.rulesDue("f(a)=g(Y,f);", -3, 7);
        CHECK.rulesDue("f(a)=g(f,Y);", -3, 7);
        CHECK.rulesDue("w(a,b,c,d,e,f,w)=a;", -3, 12);
        CHECK.rulesDue("w(a,b,c,d,e,w,f)=a;", -3, 12);
        CHECK.rulesDue("w(a,b,c,d,e)=X;f=a;", -3, 13);
        CHECK.rulesDue("a=b;".repeat(19) + "a=X;a=b;", -3, 78);
        CHECK.rulesDue("a=b;".repeat(20) + "a=X;", -3, 80);
        CHECK.rulesDue("f(" + "X,".repeat(38) + "f,X)=a;", -3, 78);
        CHECK.rulesDue("f(" + "X,".repeat(39) + "f,X)=a;", -3, 80);
        CHECK.termDue("f(X)=a;", "f(b,f)", -3, 0);
        CHECK.pairDue("f(X)=a;", "f(b)=f", -3, 2);
    }

    /** "Something is WRONG with a text without a fault". */
    private static void onlyWithoutAFault() {
        String[] wrong = {"X=a;", "f(X)=Y;", "f=f(f);", "w(a,b,c,d,e,f)=a;", "a=b;".repeat(21), "f(" + "a,".repeat(40) + "a)=a;"};
        for (String text : wrong) {
            CHECK.rulesDue(text + "a", -2, text.length() + 1);
            CHECK.rulesDue(text + "?", -2, text.length());
            CHECK.rulesDue(text + " )", -2, text.length() + 1);
            CHECK.rulesDue(text + " abcdefghijklm", -2, text.length() + 1);
            CHECK.rulesDue(text + Check.nest("s", 60, "z") + "=z;", -2, text.length() + 120);
        }
        CHECK.termDue("f(X)=a;", "f(b", -2, 3);
        CHECK.termDue("f(X)=a;", "f b", -2, 2);
        CHECK.pairDue("f(X)=a;", "b=c=d", -2, 3);
        CHECK.pairDue("f(X)=a;", "b", -2, 1);
    }

    /** "Symbols are numbered 0, 1, .. as they are read first in the rules." */
    private static void numberedAsRead() {
        TermRules x = Check.with("p(q(X),X,X)=r(X,s(X,X,X,X));t=u(t,t,t,t,t);");
        int[] parts = {3, 1, 2, 4, 0, 5};
        for (int k = 0; k < 6; k++) {
            CHECK.due("parts(" + k + ")", x.parts(k), parts[k]);
        }
        // All of the front comes before what is behind it.
        TermRules y = Check.with("f(a)=g(a,a);b=h(b,b,b);");
        int[] more = {1, 0, 2, 0, 3, -1};
        for (int k = 0; k < 6; k++) {
            CHECK.due("parts(" + k + ") of the others", y.parts(k), more[k]);
        }
    }
}
