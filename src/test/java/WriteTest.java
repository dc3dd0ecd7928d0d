/** Promises 14 and 16: write, written. */
public final class WriteTest {
    private static final Check CHECK = new Check("WriteTest");

    public static void main(String[] args) {
        sides();
        namesOfVariables();
        noSuch();
        whatWasWrittenLast();
        longSides();
        CHECK.finish();
    }

    private static void is(String rules, int k, String side0, String side1, String reduced0, String reduced1) {
        TermRules x = Check.with(rules);
        CHECK.due("side 0 of " + k + ", " + rules, Check.side(x, k, 0, false), side0);
        CHECK.due("side 1 of " + k + ", " + rules, Check.side(x, k, 1, false), side1);
        CHECK.due("side 0 of " + k + " reduced, " + rules, Check.side(x, k, 0, true), reduced0);
        CHECK.due("side 1 of " + k + " reduced, " + rules, Check.side(x, k, 1, true), reduced1);
    }

    private static void sides() {
        is("f(g(X),Y)=X;g(a)=b;", 0, "f(b,V0)", "a", "f(b,V0)", "a");
        is("f(f(X))=g(X);", 0, "f(g(V0))", "g(f(V0))", "f(g(V0))", "g(f(V0))");
        is("f(X,a)=X;f(b,Y)=Y;", 0, "b", "a", "b", "a");
        is("m(m(X,Y),Z)=m(X,m(Y,Z));", 0, "m(m(V0,m(V1,V2)),V3)", "m(m(V0,V1),m(V2,V3))",
                "m(V0,m(V1,m(V2,V3)))", "m(V0,m(V1,m(V2,V3)))");
        is("f(g(a),h(X,g(a)))=X;a=b;", 1, "f(g(a),h(V0,g(b)))", "V0", "f(g(b),h(V0,g(b)))", "V0");
        is("longname1234(X1,b)=X1;b=other(b,b);", 0, "longname1234(V0,other(b,b))", "V0", "-4", "V0");
        is("f(X,g(Y))=h(X,Y);g(k(U))=U;", 0, "f(V0,V1)", "h(V0,k(V1))", "f(V0,V1)", "h(V0,k(V1))");
    }

    private static void namesOfVariables() {
        // X and Z become one, which is not in side 0.
        is("f(g(X),Y)=h(X,Y);g(Z)=a;", 0, "f(a,V0)", "h(V1,V0)", "f(a,V0)", "h(V1,V0)");
        // Reduced ones are named by the sides as they are.
        is("s(a,X,Y)=X;a=b;s(b,X,Y)=p(Y,X);", 0, "s(b,V0,V1)", "V0", "p(V1,V0)", "V0");
        is("f(a,X,Y)=k(X,Y);a=b;f(b,X,Y)=Y;k(X,Y)=Y;", 0, "f(b,V0,V1)", "k(V0,V1)", "V1", "V1");
        is("f(a,A,B,C,D,E,F,G,H,I,J,K,L)=g(L,K,J);a=b;", 0, "f(b,V0,V1,V2,V3,V4,V5,V6,V7,V8,V9,V10,V11)",
                "g(V11,V10,V9)", "f(b,V0,V1,V2,V3,V4,V5,V6,V7,V8,V9,V10,V11)", "g(V11,V10,V9)");
        // Two rules with variables of the same names.
        is("f(g(X,Y))=h(X,Y);g(Y,X)=f(X);", 0, "f(f(V0))", "h(V1,V0)", "f(f(V0))", "h(V1,V0)");
        is("f(g(X,Y),X)=h(X,Y);g(Y,Y)=k(Y);", 0, "f(k(V0),V0)", "h(V0,V0)", "f(k(V0),V0)", "h(V0,V0)");
    }

    private static void noSuch() {
        TermRules x = Check.with("f(f(X))=g(X);");
        int[] numbers = {-1, 1, 2, 1000, Integer.MIN_VALUE, Integer.MAX_VALUE};
        for (int k : numbers) {
            CHECK.due("write(" + k + ", 0, false)", x.write(k, 0, false), -1);
            CHECK.due("write(" + k + ", 0, true)", x.write(k, 0, true), -1);
            boolean isSide = k == 1;
            CHECK.due("write(0, " + k + ", false)", x.write(0, k, false), isSide ? 8 : -1);
            CHECK.due("write(0, " + k + ", true)", x.write(0, k, true), isSide ? 8 : -1);
        }
    }

    private static void whatWasWrittenLast() {
        TermRules x = Check.with("f(a)=k;a=b;a=l;l=l;");
        CHECK.due("written(0) before", x.written(0), -1);
        CHECK.due("write(0, 0, false)", x.write(0, 0, false), 4);
        int[] due = {'f', '(', 'b', ')'};
        for (int i = 0; i < 4; i++) {
            CHECK.due("written(" + i + ")", x.written(i), due[i]);
        }
        CHECK.due("written(-1)", x.written(-1), -1);
        CHECK.due("written(4)", x.written(4), -1);
        CHECK.due("written(4000)", x.written(4000), -1);
        CHECK.due("written(least)", x.written(Integer.MIN_VALUE), -1);
        CHECK.due("written(most)", x.written(Integer.MAX_VALUE), -1);
        CHECK.due("refused", x.write(1, 0, true), -4);
        CHECK.due("no such meeting", x.write(9, 0, true), -1);
        CHECK.due("no such side", x.write(0, 2, true), -1);
        CHECK.due("no result", x.result(), -1);
        CHECK.due("is what it was", Check.written(x), "f(b)");
        CHECK.due("as it is, not refused", Check.side(x, 1, 0, false), "f(l)");
        Check.reduce(x, "f(Q)");
        CHECK.due("reduce alone writes nothing", Check.written(x), "f(l)");
        CHECK.due("a shorter one", Check.side(x, 0, 1, false), "k");
        CHECK.due("written(1)", x.written(1), -1);
        CHECK.due("result()", Check.result(x), "f(Q)");
        x.rules(0);
        CHECK.due("after new rules", Check.written(x), "f(Q)");
        x.feed(0, 0, 0, 0, 0);
        x.reduce(20);
        CHECK.due("after a fault", Check.written(x), "f(Q)");
    }

    private static void longSides() {
        // k(k(abc)) becomes 931 nodes: 900 times the name, in 31 w's, with 992 bytes beside the names.
        String wide = "w(" + Check.repeat("X,", 29) + "X);";
        TermRules x = Check.with("s=k(k(abc));s=a;k(X)=" + wide);
        CHECK.due("3692 bytes", x.write(0, 0, true), 900 * 3 + 992);
        TermRules y = Check.with("s=k(k(abcd));s=a;k(X)=" + wide);
        CHECK.due("4592 bytes", y.write(0, 0, true), -1);
        CHECK.due("nothing is written", y.written(0), -1);
        CHECK.due("as it is", Check.side(y, 0, 0, false), "k(k(abcd))");
        TermRules z = Check.with("s=k(k(k(a)));s=a;k(X)=" + wide);
        CHECK.due("refused, whatever the bytes", z.write(0, 0, true), -4);
        CHECK.due("4000 bytes", exact("seven77").write(0, 0, true), 4000);
        CHECK.due("4001 bytes", exact("eight888").write(0, 0, true), -1);
    }

    /** Of k(k(..)) come 3662 bytes, of k(..) 182, of the rest 144; then v and the signs and the name. */
    private static TermRules exact(String name) {
        String long8 = "abcdefgh";
        return Check.with("s=v(k(k(" + long8 + ")),k(" + long8 + ")," + Check.repeat(long8 + ",", 16) + name
                + ");s=" + name + ";k(X)=w(" + Check.repeat("X,", 19) + "X);");
    }
}
