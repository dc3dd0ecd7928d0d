/** Section "Terms": what is a token, a TERM and RULES, how deep a TERM may lie, and where the FAULT is. */
public final class TextEdgesTest {
    private static final Check CHECK = new Check("TextEdgesTest");
    private static final String SIGNS = "(),=;";

    public static void main(String[] args) {
        everyByteBehindAName();
        everyByteAsAName();
        blanksWhereOneLikes();
        tokensAreAsLongAsCanBe();
        twelveBytesOfAName();
        namesDifferInAnyByte();
        oneOrMoreTerms();
        variablesStandAlone();
        noneOrMoreRules();
        inFiftyNineOthers();
        depthIsThatOfOneTerm();
        faultAtTheFirstToken();
        faultAtAByte();
        faultAtTheEnd();
        CHECK.finish();
    }

    private static boolean isBlank(int b) {
        return b == 32 || b == 9 || b == 10 || b == 13;
    }

    private static boolean isCapital(int b) {
        return b >= 65 && b <= 90;
    }

    private static boolean isSmall(int b) {
        return b >= 97 && b <= 122;
    }

    private static boolean isDigit(int b) {
        return b >= 48 && b <= 57;
    }

    /** "with blanks (32, 9, 10, 13) where one likes", "NAMES (a letter, then letters and digits ..)", "the signs ( ) , = ;". */
    private static void everyByteBehindAName() {
        for (int b = 0; b < 256; b++) {
            String text = "a" + (char) b + "=b;";
            boolean isTaken = isBlank(b) || isCapital(b) || isSmall(b) || isDigit(b);
            boolean isSecondWrong = b == '(' || b == '=';
            CHECK.rulesDue(text, isTaken ? 1 : -2, isTaken ? -1 : isSecondWrong ? 2 : 1);
        }
    }

    /** "byte at which there is no token"; a NAME begins with a letter, a VARIABLE with a capital one. */
    private static void everyByteAsAName() {
        for (int b = 0; b < 256; b++) {
            String text = String.valueOf((char) b);
            boolean isName = isCapital(b) || isSmall(b);
            CHECK.termDue("", text, isCapital(b) ? 0 : isSmall(b) ? -3 : -2, isCapital(b) ? -1 : isBlank(b) ? 1 : 0);
            CHECK.termDue("f(X)=a;", "f(" + text + ")", isCapital(b) || b == 'a' ? 1 : isName ? -3 : -2,
                    isCapital(b) || b == 'a' ? -1 : isBlank(b) ? 3 : 2);
        }
    }

    /** "with blanks (32, 9, 10, 13) where one likes": one, or several, round each token, but not in a NAME. */
    private static void blanksWhereOneLikes() {
        String[] tokens = {"f", "(", "Xy", ",", "g", "(", "a", ")", ")", "=", "Xy", ";"};
        for (String blank : new String[] {" ", "\t", "\n", "\r", " \r\n\t ", " ".repeat(40)}) {
            CHECK.rulesDue(blank + String.join(blank, tokens) + blank, 1, -1);
            CHECK.termDue("f(X)=a;", blank + "f" + blank + "(" + blank + "a" + blank + ")" + blank, 1, -1);
            CHECK.pairDue("f(X)=a;", blank + "a" + blank + "=" + blank + "a" + blank, 1, -1);
            CHECK.rulesDue("f(X" + blank + "y)=a;", -2, 3 + blank.length());
        }
        for (char notBlank : new char[] {8, 11, 12, 14, 31, 33, 160}) {
            CHECK.rulesDue("f(X)" + notBlank + "=a;", -2, 4);
        }
    }

    /** "tokens, as long as can be". */
    private static void tokensAreAsLongAsCanBe() {
        CHECK.due("ab, c and d1e", Check.with("ab=c;d1e=c;").symbols(), 3);
        CHECK.due("a1 and a12", Check.with("a1=a12;").symbols(), 2);
        CHECK.rulesDue("f(aX)=aX;", 1, -1);
        CHECK.rulesDue("f(a X)=aX;", -2, 4);
        CHECK.rulesDue("a1=1a;", -2, 3);
        CHECK.rulesDue("a 1=b;", -2, 2);
    }

    /** "NAMES (.. at most 12 bytes)", "byte at which there is no token (that of a NAME that is too long, too)". */
    private static void twelveBytesOfAName() {
        for (int bytes = 1; bytes <= 40; bytes++) {
            String symbol = "s" + "y1Z".repeat(13).substring(0, bytes - 1);
            String variable = "V" + symbol.substring(1);
            boolean isTaken = bytes <= 12;
            CHECK.rulesDue(symbol + "=a;", isTaken ? 1 : -2, isTaken ? -1 : 0);
            CHECK.rulesDue("a= " + symbol + ";", isTaken ? 1 : -2, isTaken ? -1 : 3);
            CHECK.rulesDue("f(" + variable + ")=" + variable + ";", isTaken ? 1 : -2, isTaken ? -1 : 2);
            CHECK.termDue("f(X)=a;", "f(" + variable + ")", isTaken ? 1 : -2, isTaken ? -1 : 2);
            CHECK.termDue("f(X)=a;", "f(" + symbol + ")", isTaken ? -3 : -2, 2);
            CHECK.pairDue("f(X)=a;", "a=" + variable, isTaken ? 0 : -2, isTaken ? -1 : 2);
            CHECK.pairDue("f(X)=a;", variable + "=a", isTaken ? 0 : -2, isTaken ? -1 : 0);
        }
        CHECK.rulesDue("a abcdefghijklm=b;", -2, 2);
        CHECK.rulesDue("a=b abcdefghijklm", -2, 4);
    }

    /** All bytes of a NAME tell, up to the twelfth. */
    private static void namesDifferInAnyByte() {
        String name = "abcdefghijkl";
        for (int k = 0; k < 12; k++) {
            String other = name.substring(0, k) + "z" + name.substring(k + 1);
            CHECK.due(name + " and " + other, Check.with(name + "=" + other + ";").symbols(), 2);
            CHECK.pairDue("", "X" + name.substring(1) + "=X" + other.substring(1), k == 0 ? 1 : 0, -1);
            CHECK.pairDue("", "X" + name.substring(1) + "=X" + name.substring(1, k + 1), k == 11 ? 1 : 0, -1);
        }
        CHECK.pairDue("", "Xa=XA", 0, -1);
    }

    /** "TERMS being one or more TERMs with , between". */
    private static void oneOrMoreTerms() {
        CHECK.rulesDue("f()=a;", -2, 2);
        for (int parts = 1; parts <= 39; parts++) {
            String terms = "X,".repeat(parts - 1);
            CHECK.rulesDue("f(" + terms + "X)=X;", 1, -1);
            CHECK.rulesDue("f(" + terms + ")=X;", -2, 2 * parts);
            CHECK.rulesDue("f(" + terms + "X,,X)=X;", -2, 2 * parts + 2);
            CHECK.rulesDue("f(" + terms + "X X)=X;", -2, 2 * parts + 2);
        }
        CHECK.termDue("f(X)=X;", "f()", -2, 2);
        CHECK.pairDue("f(X)=X;", "X=f()", -2, 4);
    }

    /** "A NAME that begins with a capital letter is a VARIABLE, and stands alone; others are SYMBOLS." */
    private static void variablesStandAlone() {
        for (char c = 'A'; c <= 'Z'; c++) {
            CHECK.rulesDue("f(" + c + ")=" + c + ";", 1, -1);
            CHECK.rulesDue(c + "(a)=a;", -2, 1);
            CHECK.rulesDue("f(" + c + " (a))=a;", -2, 4);
            CHECK.termDue("", c + "a(a)", -2, 2);
            char small = Character.toLowerCase(c);
            CHECK.rulesDue(small + "(X)=X;", 1, -1);
            CHECK.rulesDue("zz(" + small + ")=" + small + ";", 1, -1);
            CHECK.rulesDue("zz(" + small + ")=" + c + ";", -3, 6);
            CHECK.rulesDue(small + "X(Y)=Y;", 1, -1);
        }
    }

    /** "RULES are none or more of: TERM = TERM ;". */
    private static void noneOrMoreRules() {
        CHECK.rulesDue("", 0, -1);
        CHECK.rulesDue(" ", 0, -1);
        for (int rules = 1; rules <= 20; rules++) {
            String text = "a=b;".repeat(rules);
            CHECK.rulesDue(text, rules, -1);
            CHECK.rulesDue(text + ";", -2, text.length());
            CHECK.rulesDue(text.substring(0, text.length() - 1), -2, text.length() - 1);
        }
        CHECK.termDue("", "", -2, 0);
        CHECK.termDue("a=b;", "a a", -2, 2);
        CHECK.pairDue("a=b;", "", -2, 0);
        CHECK.pairDue("a=b;", "a=a;", -2, 3);
        CHECK.pairDue("a=b;", "a=a;a=a", -2, 3);
    }

    /** "A TERM may lie in 59 others at most", "that which begins a TERM in 60 others, too". */
    private static void inFiftyNineOthers() {
        String f = "f(X)=a;g(X,Y)=a;";
        for (int others = 57; others <= 62; others++) {
            boolean isTaken = others <= 59;
            String inside = Check.nest("f", others, "a");
            CHECK.termDue(f, inside, isTaken ? others : -2, isTaken ? -1 : 120);
            CHECK.termDue(f, Check.nest("f", others, "Q"), isTaken ? others : -2, isTaken ? -1 : 120);
            CHECK.termDue(f, Check.nest("f ", others, " a"), isTaken ? others : -2, isTaken ? -1 : others == 60 ? 181 : 180);
            CHECK.pairDue(f, inside + "=a", isTaken ? 1 : -2, isTaken ? -1 : 120);
            CHECK.pairDue(f, "a=" + inside, isTaken ? 1 : -2, isTaken ? -1 : 122);
            // With so many nodes something is wrong with a side of a rule; a fault would come before that.
            CHECK.rulesDue(inside + "=a;", isTaken ? -3 : -2, isTaken ? 80 : 120);
            CHECK.rulesDue("a=" + inside + ";", isTaken ? -3 : -2, isTaken ? 82 : 122);
            CHECK.rulesDue("a=b;" + inside + "=a;", isTaken ? -3 : -2, isTaken ? 84 : 124);
        }
        // The sign behind the sixtieth is no fault: what comes behind it is.
        String open = "f(".repeat(60);
        CHECK.termDue(f, open, -2, 120);
        CHECK.termDue(f, open + " ", -2, 121);
        CHECK.termDue(f, open + " )", -2, 121);
        CHECK.termDue(f, open + "?", -2, 120);
        CHECK.termDue(f, open + "  a", -2, 122);
    }

    /** What has been closed is none of the others that a TERM lies in. */
    private static void depthIsThatOfOneTerm() {
        String rules = "f(X)=a;g(X,Y)=a;";
        String most = Check.nest("f", 58, "a");
        String more = Check.nest("f", 59, "a");
        CHECK.termDue(rules, "g(" + most + "," + most + ")", 117, -1);
        CHECK.termDue(rules, "g(" + most + "," + more + ")", -2, 4 + most.length() + 117);
        CHECK.termDue(rules, "g(" + more + "," + most + ")", -2, 2 + 118);
        CHECK.termDue(rules, Check.nest("f", 57, "g(g(a,a),g(f(Q),a))"), -2, 57 * 2 + 13);
        CHECK.termDue(rules, Check.nest("f", 57, "g(g(a,a),g(Q,a))"), 60, -1);
        CHECK.pairDue(rules, more + "=" + more, 1, -1);
    }

    /** "A text has a FAULT at the first token with which none goes on". */
    private static void faultAtTheFirstToken() {
        // What may come next: a NAME where a TERM begins, at the beginning, behind ( , = and ;
        String[] beginnings = {"", "f(", "f(a,", "a=", "a=b;"};
        for (String beginning : beginnings) {
            for (char sign : SIGNS.toCharArray()) {
                CHECK.rulesDue(beginning + " " + sign + "?", -2, beginning.length() + 1);
            }
            CHECK.rulesDue(beginning + "X?", -2, beginning.length() + 1);
        }
        // Behind a symbol, a variable, a closed TERM: in parts, in front of = and behind it.
        goesOn("f(a", "(),");
        goesOn("f(X", "),");
        goesOn("f(f(a)", "),");
        goesOn("a", "(=");
        goesOn("X", "=");
        goesOn("f(a)", "=");
        goesOn("a=b", "(;");
        goesOn("f(X)=X", ";");
        goesOn("a=f(a)", ";");
        CHECK.termDue("a=b;", "a,", -2, 1);
        CHECK.termDue("a=b;", "a=", -2, 1);
        CHECK.termDue("a=b;", "a;", -2, 1);
        CHECK.termDue("a=b;", "a)", -2, 1);
        CHECK.pairDue("a=b;", "a,b", -2, 1);
        CHECK.pairDue("a=b;", "a=b=", -2, 3);
        CHECK.pairDue("a=b;", "a=b,", -2, 3);
        CHECK.pairDue("a=b;", "a=b)", -2, 3);
        // The first of two, and before anything that is wrong.
        CHECK.rulesDue("a=b)?", -2, 3);
        CHECK.rulesDue("X=Y;Z=,", -2, 6);
    }

    /** Each sign, and a NAME, behind the beginning of rules: a fault there, or at the ? behind it. */
    private static void goesOn(String beginning, String signs) {
        for (char sign : SIGNS.toCharArray()) {
            boolean isTaken = signs.indexOf(sign) >= 0;
            CHECK.rulesDue(beginning + sign + "?", -2, beginning.length() + (isTaken ? 1 : 0));
        }
        CHECK.rulesDue(beginning + " b?", -2, beginning.length() + 1);
        CHECK.rulesDue(beginning + " B?", -2, beginning.length() + 1);
    }

    /** "or byte at which there is no token": the first one, whatever is wrong before it. */
    private static void faultAtAByte() {
        String text = "f(X,g(a))=X;";
        for (int at = 0; at <= text.length(); at++) {
            CHECK.rulesDue(text.substring(0, at) + "?" + text.substring(at), -2, at);
            CHECK.rulesDue(text.substring(0, at) + "  #?" + text.substring(at), -2, at + 2);
        }
        CHECK.rulesDue("X=a;\u00ff", -2, 4);
        CHECK.termDue("a=b;", "c?", -2, 1);
        CHECK.pairDue("a=b;", "c=c ?", -2, 4);
    }

    /** "or the end"; "the end of a text is at n, whatever blanks come before". */
    private static void faultAtTheEnd() {
        String text = "f(X,g(a))=X;";
        for (int n = 1; n < text.length(); n++) {
            CHECK.rulesDue(text.substring(0, n), -2, n);
            CHECK.rulesDue(text.substring(0, n) + " \t\r\n", -2, n + 4);
            // The first byte alone is a TERM, with which something is wrong.
            if (n > 1 && n < 9) {
                CHECK.termDue(text, text.substring(0, n), -2, n);
                CHECK.termDue(text, text.substring(0, n) + "\n\n", -2, n + 2);
            }
            if (n < 11) {
                CHECK.pairDue(text, text.substring(0, n), -2, n);
                CHECK.pairDue(text, text.substring(0, n) + "   ", -2, n + 3);
            }
        }
        CHECK.rulesDue(text, 1, -1);
        CHECK.termDue(text, text.substring(0, 9), 1, -1);
        CHECK.pairDue(text, text.substring(0, 11), 1, -1);
        CHECK.termDue(text, " ".repeat(4000), -2, 4000);
        CHECK.rulesDue("a" + " ".repeat(3999), -2, 4000);
        CHECK.rulesDue(" ".repeat(4000), 0, -1);
    }
}
