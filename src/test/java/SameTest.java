/** Promise 9: same. */
public final class SameTest {
    private static final Check CHECK = new Check("SameTest");
    private static final String GROUP = "m(e,X)=X;m(X,e)=X;m(i(X),X)=e;m(X,i(X))=e;m(m(X,Y),Z)=m(X,m(Y,Z));"
            + "i(e)=e;i(i(X))=X;m(X,m(i(X),Y))=Y;m(i(X),m(X,Y))=Y;i(m(X,Y))=m(i(Y),i(X));";

    public static void main(String[] args) {
        good();
        bad();
        refused();
        noSuchLength();
        CHECK.finish();
    }

    private static void is(String rules, String text, int answer, int place) {
        TermRules x = Check.with(rules);
        CHECK.due("same '" + text + "' by " + rules, Check.same(x, text), answer);
        CHECK.due("place() of '" + text + "'", x.place(), place);
        CHECK.due("the tape is empty", x.same(1), -1);
    }

    private static void good() {
        is("a=b;", "a=b", 1, -1);
        is("a=b;", "b=a", 1, -1);
        is("a=b;c=d;", "a=c", 0, -1);
        is("f(X)=X;", "f(X)=X", 1, -1);
        is("f(X)=X;", "f(X)=Y", 0, -1);
        is("f(X)=X;", "X=f(f(X))", 1, -1);
        is("f(X)=X;", "X=Y", 0, -1);
        is("", " Abc = Abc ", 1, -1);
        is("", "Abc=Abd", 0, -1);
        is("f(X,Y)=g(X);", "f(A,B)=f(A,C)", 1, -1);
        is("f(X,Y)=g(X);", "f(A,B)=f(B,A)", 0, -1);
        is("f(X,Y)=g(X);", "g(A)=g(g(A))", 0, -1);
        is(GROUP, "i(m(A,m(B,i(C))))=m(m(C,i(B)),i(A))", 1, -1);
        is(GROUP, "m(A,B)=m(B,A)", 0, -1);
        is(GROUP, "m(m(i(A),m(A,B)),i(B))=e", 1, -1);
    }

    private static void bad() {
        is("a=b;", "", -2, 0);
        is("a=b;", "a", -2, 1);
        is("a=b;", "a ", -2, 2);
        is("a=b;", "a=", -2, 2);
        is("a=b;", "=a", -2, 0);
        is("a=b;", "a=b;", -2, 3);
        is("a=b;", "a=b=a", -2, 3);
        is("a=b;", "a=b a", -2, 4);
        is("a=b;", "a;b", -2, 1);
        is("a=b;", "a==b", -2, 2);
        is("f(X)=a;", "f(f=a)", -2, 3);
        is("f(X)=a;", Check.nest("f", 60, "a") + "=a", -2, 120);
        is("f(X)=a;", "a=" + Check.nest("f", 60, "a"), -2, 122);
        is("f(X)=a;", "f(f)=c", -3, 2);
        is("f(X)=a;", "f(a)=c", -3, 5);
        is("f(X)=a;", "c=f", -3, 0);
        is("f(X)=a;", "a=f(a,a)", -3, 2);
        is("f(X)=a;", "c=f?", -2, 3);
    }

    private static void refused() {
        is("l=l;f(X)=a;", "l=a", -4, -1);
        is("l=l;f(X)=a;", "a=l", -4, -1);
        is("l=l;f(X)=a;", "l=l", -4, -1);
        is("l=l;f(X)=a;", "f(l)=a", -4, -1);
        is("l=l;f(X)=a;", "l=c", -3, 2);
        String wide = "w(" + Check.repeat("A,", 36) + "B)";
        String most = "w(" + Check.repeat(wide + ",", 26) + Check.repeat("C,", 10);
        String rules = "w(" + Check.repeat("X,", 36) + "X)=v(X);";
        is(rules, most + "D)=D", 0, -1);
        is(rules, most + "v(D))=D", -4, -1);
        is(rules, "D=" + most + "v(D))", -4, -1);
        // Each side has its own thousand nodes, and its own two thousand steps.
        String part = "w(" + Check.repeat(wide + ",", 20) + Check.repeat("C,", 16) + "D)";
        is(rules, part + "=" + part, 1, -1);
        String steps = "d(z)=z;d(s(X))=d(X);r(X)=w(" + Check.repeat("d(X),", 18) + "d(X));v(X,Y)=X;";
        String r44 = "r(" + Check.nest("s", 44, "z") + ")";
        is(steps, "v(" + r44 + "," + r44 + ")=v(" + r44 + "," + r44 + ")", 1, -1);
    }

    private static void noSuchLength() {
        TermRules x = Check.with("a=b;");
        Check.feed(x, "a=b");
        CHECK.due("same(21)", x.same(21), -1);
        CHECK.due("same(-1)", x.same(-1), -1);
        CHECK.due("same(least)", x.same(Integer.MIN_VALUE), -1);
        CHECK.due("same(most)", x.same(Integer.MAX_VALUE), -1);
        CHECK.due("same(3)", x.same(3), 1);
        Check.feed(x, "a=abc");
        CHECK.due("only the first bytes", x.same(3), 1);
        CHECK.due("same(0)", x.same(0), -2);
    }
}
