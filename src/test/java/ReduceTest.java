/** Promises 8 and 15: reduce, result. */
public final class ReduceTest {
    private static final Check CHECK = new Check("ReduceTest");
    private static final String NUMBERS =
            "add(z,Y)=Y;add(s(X),Y)=s(add(X,Y));mul(z,Y)=z;mul(s(X),Y)=add(Y,mul(X,Y));";

    public static void main(String[] args) {
        ordinary();
        whichStep();
        faults();
        wrong();
        mostSteps();
        mostNodes();
        deepResults();
        longResults();
        whenThereIsNone();
        CHECK.finish();
    }

    private static void is(String rules, String term, int steps, String result) {
        TermRules x = Check.with(rules);
        CHECK.due("reduce '" + term + "' by " + rules, Check.reduce(x, term), steps);
        CHECK.due("place()", x.place(), -1);
        CHECK.due("result of '" + term + "' by " + rules, Check.result(x), result);
    }

    private static void ordinary() {
        is("", "X", 0, "X");
        is("a=b;", "a", 1, "b");
        is("a=b;", "b", 0, "b");
        is("a=b;", " Xyz ", 0, "Xyz");
        is(NUMBERS, "mul(s(s(z)),s(s(s(z))))", 11, "s(s(s(s(s(s(z))))))");
        is(NUMBERS, "add ( s(X1) , Y23456789012 )", 1, "s(add(X1,Y23456789012))");
        is("f(X,X)=X;", "f(f(A,A),A)", 2, "A");
        is("f(X,X)=X;", "f(A,B)", 0, "f(A,B)");
        is("f(X,X)=X;", "f(f(A,B),f(A,B))", 1, "f(A,B)");
        is("f(X,X)=X;g(a)=b;", "f(f(g(A),B),f(g(A),C))", 0, "f(f(g(A),B),f(g(A),C))");
        is("f(X,X)=X;g(a)=b;", "f(g(a),b)", 2, "b");
        is("f(g(X),g(X))=X;", "f(g(f(g(U),g(U))),g(U))", 2, "U");
        is("f(X,Y,X)=g(Y,X,Y);", "f(A,B,A)", 1, "g(B,A,B)");
        is("longsymbol12(X)=short1(X,X);", "longsymbol12(Longvar12345)", 1, "short1(Longvar12345,Longvar12345)");
    }

    /** From the inside, from the left, by the first rule. */
    private static void whichStep() {
        is("a=b;a=c;", "a", 1, "b");
        is("f(X)=b;f(a)=c;", "f(a)", 1, "b");
        is("f(a)=c;f(X)=b;", "f(a)", 1, "c");
        is("f(a)=c;a=b;", "f(a)", 1, "f(b)");
        is("k(X,Y)=X;a=b;", "k(a,a)", 3, "b");
        is("f(X)=g(X,X);a=b;", "f(a)", 2, "g(b,b)");
        is("g(X,X)=e;f(X)=g(X,a);a=b;", "f(a)", 4, "e");
        is("k(X,Y)=X;l=l;", "k(A,B)", 1, "A");
        TermRules x = Check.with("k(X,Y)=X;l=l;");
        CHECK.due("a part that has no end", Check.reduce(x, "k(A,l)"), -4);
    }

    private static void bad(String term, int answer, int place) {
        TermRules x = Check.with("f(X,a)=g(X);");
        CHECK.due("reduce '" + term + "'", Check.reduce(x, term), answer);
        CHECK.due("place() of '" + term + "'", x.place(), place);
        CHECK.due("result() of '" + term + "'", x.result(), -1);
    }

    private static void faults() {
        bad("", -2, 0);
        bad("   ", -2, 3);
        bad("a b", -2, 2);
        bad("a=a", -2, 1);
        bad("a;", -2, 1);
        bad("a,", -2, 1);
        bad("a)", -2, 1);
        bad("f(a,a", -2, 5);
        bad("f(a,a  ", -2, 7);
        bad("f(a,", -2, 4);
        bad("A(a)", -2, 1);
        bad("f(a,a)a", -2, 6);
        bad("%", -2, 0);
        bad("Abcdefghijklm", -2, 0);
        bad(Check.nest("g", 60, "a"), -2, 120);
        bad("b?", -2, 1);
    }

    private static void wrong() {
        bad("b", -3, 0);
        bad(" f", -3, 1);
        bad("f(a)", -3, 0);
        bad("f(a,a,a)", -3, 0);
        bad("g(a(a))", -3, 2);
        bad("g(X,b)", -3, 0);
        bad("f(g,b)", -3, 2);
        bad("f(a,ff)", -3, 4);
        bad("f(" + Check.repeat("a,", 1998) + "a)", -3, 0);
        TermRules x = Check.with("f(X)=a;");
        CHECK.due("a variable's name of the rules is free", Check.reduce(x, "f(X)"), 1);
        CHECK.due("fifty-nine others", Check.reduce(x, Check.nest("f", 59, "Q")), 59);
    }

    /** By these, d(s^n) takes n + 1 steps, r(s^n) takes 1 + 19 * (n + 1), and v one of its own. */
    private static void mostSteps() {
        TermRules x = Check.with("d(z)=z;d(s(X))=d(X);v(X,Y)=X;r(X)=w(" + Check.repeat("d(X),", 18) + "d(X));");
        String r44 = "r(" + Check.nest("s", 44, "z") + ")";
        CHECK.due("856 steps", Check.reduce(x, r44), 856);
        String three = "v(v(" + r44 + "," + r44 + "),r(" + Check.nest("s", 13, "z") + "))";
        CHECK.due("1981 steps", Check.reduce(x, three), 2 * 856 + 267 + 2);
        for (int m = 15; m <= 19; m++) {
            String term = "v(" + three + ",d(" + Check.nest("s", m, "z") + "))";
            boolean isRefused = m > 17;
            CHECK.due("with d of " + m, Check.reduce(x, term), isRefused ? -4 : 1983 + m);
            CHECK.due("place() with d of " + m, x.place(), -1);
            CHECK.due("its result", Check.result(x), isRefused ? "-1" : "w(" + Check.repeat("z,", 18) + "z)");
        }
        CHECK.due("steps without end", Check.reduce(Check.with("a=b;b=a;"), "a"), -4);
    }

    private static void mostNodes() {
        TermRules x = Check.with("w(" + Check.repeat("X,", 36) + "X)=v(X);g(X)=h(X,X);");
        String wide = "w(" + Check.repeat("A,", 36) + "B)";
        CHECK.due("38 nodes", Check.reduce(x, wide), 0);
        String most = "w(" + Check.repeat(wide + ",", 26) + Check.repeat("C,", 10);
        CHECK.due("1000 nodes", Check.reduce(x, most + "D)"), 0);
        CHECK.due("1001 nodes, and normal", Check.reduce(x, most + "v(D))"), -4);
        CHECK.due("place() of 1001 nodes", x.place(), -1);
        CHECK.due("result() of 1001 nodes", x.result(), -1);
        CHECK.due("1001 nodes, and a fault", Check.reduce(x, most + "v(D))?"), -2);
        CHECK.due("1001 nodes, and wrong", Check.reduce(x, most + "v(q))"), -3);
        TermRules y = Check.with("f(" + Check.repeat("X,", 38) + "X)=a;");
        String flat = "f(" + Check.repeat("X,", 38) + "X)";
        CHECK.due("976 nodes that shrink", Check.reduce(y, "f(" + Check.repeat(flat + ",", 23) + Check.repeat("X,", 15) + flat + ")"), 24);
        CHECK.due("1561 nodes that would shrink", Check.reduce(y, "f(" + Check.repeat(flat + ",", 38) + flat + ")"), -4);
        String half = "w(" + Check.repeat(wide + ",", 12) + Check.repeat("C,", 23) + "B,";
        for (int t = 497; t <= 501; t++) {
            String part = half + Check.nest("v", t - 482, "D") + ")";
            int due = 2 * t + 1 <= 1000 ? 1 : -4;
            CHECK.due("g of " + t + " nodes, which become twice as many", Check.reduce(x, "g(" + part + ")"), due);
        }
        grownAndShrunk();
    }

    /** The limit holds at any time, not only at the beginning and the end. */
    private static void grownAndShrunk() {
        TermRules x = Check.with("g(X)=h(X,X,X,X,X,X,X,X,X);h(A,B,C,D,E,F,G,H,I)=A;j(X,X)=s(X);");
        CHECK.due("grown and shrunk", Check.reduce(x, "g(Q)"), 2);
        CHECK.due("the result", Check.result(x), "Q");
        for (int t = 109; t <= 113; t++) {
            String part = "j(" + Check.nest("s", 54, "A") + "," + Check.nest("s", t - 57, "B") + ")";
            CHECK.due("nine times " + t, Check.reduce(x, "g(" + part + ")"), 9 * t + 1 <= 1000 ? 2 : -4);
            CHECK.due("its result", Check.result(x), 9 * t + 1 <= 1000 ? part : "-1");
        }
    }

    private static void deepResults() {
        TermRules x = Check.with(NUMBERS);
        String thirty = Check.nest("s", 30, "z");
        CHECK.due("30 times 30", Check.reduce(x, "mul(" + thirty + "," + thirty + ")"), 961);
        CHECK.due("900", Check.result(x), Check.nest("s", 900, "z"));
    }

    private static void longResults() {
        // A variable becomes 900 of it, in 31 w's, with 992 signs and names of w.
        TermRules x = Check.with("a(X)=w(" + Check.repeat("X,", 29) + "X);b(X)=w(" + Check.repeat("X,", 29) + "X);");
        CHECK.due("steps", Check.reduce(x, "a(b(A23))"), 2);
        CHECK.due("names of three bytes", x.result(), 900 * 3 + 992);
        CHECK.due("steps", Check.reduce(x, "a(b(A234))"), 2);
        CHECK.due("names of four bytes", x.result(), -1);
        CHECK.due("steps", Check.reduce(x, "a(b(A23456789012))"), 2);
        CHECK.due("names of twelve bytes", x.result(), -1);
        CHECK.due("written stays", x.written(3691), ')');
        CHECK.due("written stays", x.written(3692), -1);
        exactlyFourThousand();
    }

    private static void exactlyFourThousand() {
        TermRules x = Check.with("w(" + Check.repeat("X,", 29) + "X)=X;a=bc;");
        String row = "w(" + Check.repeat("Ab,", 29);
        String all = "w(" + Check.repeat(row + "C),", 29) + row;
        for (int bytes = 3999; bytes <= 4000; bytes++) {
            String text = lengthen(all + "C))", bytes);
            CHECK.due("no step", Check.reduce(x, text), 0);
            CHECK.due("result of " + bytes + " bytes", x.result(), bytes);
            CHECK.due("what is written", Check.written(x), text);
        }
        // Here a becomes bc, one byte more than the text had.
        CHECK.due("one step", Check.reduce(x, lengthen(all + "a))", 3999)), 1);
        CHECK.due("result of 4000 bytes", x.result(), 4000);
        CHECK.due("one step", Check.reduce(x, lengthen(all + "a))", 4000)), 1);
        CHECK.due("result of 4001 bytes", x.result(), -1);
        // However much is too much, and wherever in it the 4000th byte is.
        for (int more = 1; more <= 12; more++) {
            String text = lengthen("w(w(" + Check.repeat("a,", more) + all.substring(4 + 3 * more) + "C))", 4000);
            CHECK.due("so many steps", Check.reduce(x, text), more);
            CHECK.due("result of " + more + " bytes more", x.result(), -1);
        }
    }

    /** Makes names Ab longer, up to twelve bytes, until the text has that many bytes. */
    private static String lengthen(String text, int bytes) {
        StringBuilder longer = new StringBuilder(text);
        int at = longer.indexOf("Ab");
        while (longer.length() < bytes) {
            int more = Math.min(10, bytes - longer.length());
            longer.insert(at + 2, "0".repeat(more));
            at = longer.indexOf("Ab,", at + 1);
        }
        return longer.toString();
    }

    private static void whenThereIsNone() {
        TermRules x = Check.with("a=b;l=l;");
        CHECK.due("result() before reduce", x.result(), -1);
        Check.reduce(x, "a");
        CHECK.due("result()", Check.result(x), "b");
        CHECK.due("result() again", Check.result(x), "b");
        Check.same(x, "l=a");
        CHECK.due("same does not count", Check.result(x), "b");
        Check.same(x, "X=Y");
        CHECK.due("same does not count", Check.result(x), "b");
        Check.feed(x, "b");
        CHECK.due("reduce(21)", x.reduce(21), -1);
        CHECK.due("reduce(-1)", x.reduce(-1), -1);
        CHECK.due("result() after NONE", Check.result(x), "b");
        CHECK.due("reduce(0)", x.reduce(0), -2);
        CHECK.due("result() after a fault", x.result(), -1);
        Check.reduce(x, "a");
        Check.reduce(x, "c");
        CHECK.due("result() after something wrong", x.result(), -1);
        Check.reduce(x, "a");
        Check.reduce(x, "l");
        CHECK.due("result() after what is refused", x.result(), -1);
        Check.reduce(x, "a");
        x.rules(0);
        CHECK.due("result() after rules", x.result(), -1);
        Check.reduce(x, "Q");
        CHECK.due("result()", Check.result(x), "Q");
        Check.rules(x, "?");
        CHECK.due("result() after rules with a fault", x.result(), -1);
        CHECK.due("written stays", Check.written(x), "Q");
    }
}
