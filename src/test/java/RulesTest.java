/** Promises 3 and 4: rules, place. */
public final class RulesTest {
    private static final Check CHECK = new Check("RulesTest");

    public static void main(String[] args) {
        goodTexts();
        faults();
        faultsOfDepth();
        faultsOfNames();
        wrongSymbols();
        wrongVariables();
        wrongNumbers();
        firstOfSeveral();
        noSuchLength();
        placeOfTheLatest();
        rulesAreReplaced();
        CHECK.finish();
    }

    private static void is(String text, int answer, int place) {
        TermRules x = new TermRules();
        Check.rules(x, "q=r;");
        CHECK.due("rules of '" + text + "'", Check.rules(x, text), answer);
        CHECK.due("place() after '" + text + "'", x.place(), place);
        if (answer < 0) {
            CHECK.due("symbols() after '" + text + "'", x.symbols(), 0);
            CHECK.due("isSure() after '" + text + "'", x.isSure(), 1);
        }
    }

    private static void goodTexts() {
        is("", 0, -1);
        is(" \t\n\r ", 0, -1);
        is("a=b;", 1, -1);
        is(" a = b ; ", 1, -1);
        is("a\t=\nb\r;c=d;", 2, -1);
        is("f ( X , g ( Y ) ) = X ;", 1, -1);
        is("f(X,X)=f(X,X);", 1, -1);
        is("aB9=z9A;", 1, -1);
        is("a=a;", 1, -1);
    }

    private static void faults() {
        is("a", -2, 1);
        is("a  ", -2, 3);
        is("a=", -2, 2);
        is("a=b", -2, 3);
        is("a=b  ", -2, 5);
        is("a=b;c", -2, 5);
        is("a=b;c=d", -2, 7);
        is("=", -2, 0);
        is("  =", -2, 2);
        is(";", -2, 0);
        is("(", -2, 0);
        is("a=b;;", -2, 4);
        is("a==b;", -2, 2);
        is("a=b=c;", -2, 3);
        is("a;", -2, 1);
        is("a,b=c;", -2, 1);
        is("a)=c;", -2, 1);
        is("f(=a;", -2, 2);
        is("f()=a;", -2, 2);
        is("f(a,)=a;", -2, 4);
        is("f(,a)=a;", -2, 2);
        is("f(a b)=a;", -2, 4);
        is("f(a=b;", -2, 3);
        is("f(a;", -2, 3);
        is("f(a))=b;", -2, 4);
        is("f(a)(a)=b;", -2, 4);
        is("f((a))=b;", -2, 2);
        is("f(a", -2, 3);
        is("f(", -2, 2);
        is("a b=c;", -2, 2);
        is("X(a)=b;", -2, 1);
        is("f(X(a))=b;", -2, 3);
        is("X (a)=b;", -2, 2);
        is("f(a)b=c;", -2, 4);
    }

    private static void faultsOfDepth() {
        is(Check.nest("s", 39, "X") + "=X;", 1, -1);
        is(Check.nest("s", 59, "z") + "=z;", -3, 80);
        is(Check.nest("s", 60, "z") + "=z;", -2, 120);
        is(Check.nest("s", 60, "Z") + "=z;", -2, 120);
        is(Check.repeat("s(", 60), -2, 120);
        is(Check.repeat("s(", 60) + "  )", -2, 122);
        is(Check.repeat("s(", 59) + "s", -2, 119);
        is(Check.repeat("s(", 59) + "s s", -2, 120);
        is("f(a," + Check.nest("s", 59, "z") + ")=z;", -2, 122);
        is("a=" + Check.nest("s", 60, "z") + ";", -2, 122);
    }

    private static void faultsOfNames() {
        is("abcdefghijkl=a;", 1, -1);
        is("abcdefghijklm=a;", -2, 0);
        is("a=abcdefghijkl;", 1, -1);
        is("a= abcdefghijklm;", -2, 3);
        is("f(ABCDEFGHIJKL)=ABCDEFGHIJKL;", 1, -1);
        is("f(ABCDEFGHIJKLM)=a;", -2, 2);
        is("f(A23456789012)=f(A23456789013);", -3, 18);
        is("a23456789012=a23456789013;", 1, -1);
        is("1=a;", -2, 0);
        is("a=1a;", -2, 2);
        is("a=b;?", -2, 4);
        is("a_b=c;", -2, 1);
        is("a.=b;", -2, 1);
        is("\u00e9=b;", -2, 0);
        is("a=\u0000b;", -2, 2);
        is("@=a;", -2, 0);
        is("[=a;", -2, 0);
        is("`=a;", -2, 0);
        is("{=a;", -2, 0);
        is("a/=b;", -2, 1);
        is("a:=b;", -2, 1);
        is("a\u000b=b;", -2, 1);
    }

    private static void wrongSymbols() {
        is("f(X)=f(X,X);", -3, 5);
        is("f(a)=f;", -3, 5);
        is("f(f)=a;", -3, 2);
        is("f=f(f);", -3, 2);
        is("a=b;a(b)=b;", -3, 4);
        is("a=b;c=d;e=f;", 3, -1);
        is("a=b;c=d;e=f;g=a;", -3, 12);
        is("a=b;c=d;e=f;a=g;", -3, 14);
        is("f(g(h(i(j(k(X))))))=X;", 1, -1);
        is("f(g(h(i(j(k(l(X)))))))=X;", -3, 12);
        is("a=b;c=d;e=f;A(a)=b;", -2, 13);
    }

    private static void wrongVariables() {
        is("X=a;", -3, 0);
        is("  X=X;", -3, 2);
        is("a=b; X=a;", -3, 5);
        is("f(X)=Y;", -3, 5);
        is("f(X)=f(f(Y));", -3, 9);
        is("a=X;", -3, 2);
        is("f(X)=X;f(Y)=X;", -3, 12);
        is("f(X)=X;f(X)=X;", 2, -1);
        is("f(x)=X;", -3, 5);
    }

    private static void wrongNumbers() {
        is(Check.repeat("a=b;", 20), 20, -1);
        is(Check.repeat("a=b;", 21), -3, 80);
        is(Check.repeat("a=b;", 20) + " b=a; a=a;", -3, 81);
        is(Check.repeat("a=b;", 20) + "a", -2, 81);
        is("f(" + Check.repeat("X,", 38) + "X)=X;", 1, -1);
        is("f(" + Check.repeat("X,", 39) + "X)=X;", -3, 80);
        is("f(" + Check.repeat("X,", 40) + "X)=X;", -3, 80);
        is("f(" + Check.repeat("X,", 38) + "X)=f(" + Check.repeat("X,", 38) + "X);", 1, -1);
        is("a=f(" + Check.repeat("a,", 38) + "a);", 1, -1);
        is("a=f(" + Check.repeat("a,", 39) + "a);", -3, 82);
        is("f(" + Check.repeat("a,", 1990) + "a)=a;", -3, 80);
    }

    private static void firstOfSeveral() {
        is("f(X)=Y;X=a;", -3, 5);
        is("X=Y;f(Z)=f;", -3, 0);
        is("f(X)=f(Y,X);", -3, 5);
        is("f(X)=g(Y,g);", -3, 7);
        is("f(X)=g(X,g,Y);", -3, 9);
        is("X=a;?", -2, 4);
        is("f(X)=Y;f(X)=f(X", -2, 15);
    }

    private static void noSuchLength() {
        TermRules x = Check.with("f(X)=a;");
        Check.reduce(x, "f(Y)");
        Check.feed(x, "b=c;");
        CHECK.due("rules(-1)", x.rules(-1), -1);
        CHECK.due("rules(21)", x.rules(21), -1);
        CHECK.due("rules(least)", x.rules(Integer.MIN_VALUE), -1);
        CHECK.due("rules(most)", x.rules(Integer.MAX_VALUE), -1);
        CHECK.due("the rules are as they were", x.symbols(), 2);
        CHECK.due("the result is as it was", Check.result(x), "a");
        CHECK.due("rules(4)", x.rules(4), 1);
        CHECK.due("parts(0)", x.parts(0), 0);
        CHECK.due("result() after rules", x.result(), -1);
        Check.feed(x, "a=b;c=d;");
        CHECK.due("only the first bytes", x.rules(4), 1);
        CHECK.due("symbols()", x.symbols(), 2);
        Check.feed(x, "abc=d;");
        CHECK.due("a name cut off", x.rules(2), -2);
        CHECK.due("place()", x.place(), 2);
    }

    private static void placeOfTheLatest() {
        TermRules x = new TermRules();
        Check.rules(x, "a=?");
        CHECK.due("place() of rules", x.place(), 2);
        CHECK.due("place() again", x.place(), 2);
        x.feed(0, 0, 0, 0, 0);
        CHECK.due("reduce(21)", x.reduce(21), -1);
        CHECK.due("same(-1)", x.same(-1), -1);
        CHECK.due("rules(21)", x.rules(21), -1);
        CHECK.due("place() after calls that answer NONE", x.place(), 2);
        CHECK.due("rules(0)", x.rules(0), 0);
        CHECK.due("place() after a good text", x.place(), -1);
        Check.reduce(x, " b");
        CHECK.due("place() of reduce", x.place(), 1);
        Check.same(x, "X=X");
        CHECK.due("place() after a good pair", x.place(), -1);
        Check.same(x, "X=c");
        CHECK.due("place() of same", x.place(), 2);
        Check.rules(x, "a=b;b=a;");
        CHECK.due("place() after good rules", x.place(), -1);
        Check.same(x, "X=c");
        CHECK.due("refused", Check.reduce(x, "a"), -4);
        CHECK.due("place() after what is refused", x.place(), -1);
    }

    private static void rulesAreReplaced() {
        TermRules x = Check.with("g(g(X))=X;g(a)=a;");
        CHECK.due("meetings()", x.meetings(), 2);
        CHECK.due("order(0)", x.order(0), 0);
        CHECK.due("isSure()", x.isSure(), 1);
        Check.rules(x, "a=b;a=c;");
        CHECK.due("symbols() of the new ones", x.symbols(), 3);
        CHECK.due("meetings() of the new ones", x.meetings(), 1);
        CHECK.due("isSure() of the new ones", x.isSure(), 0);
        Check.rules(x, "a=b");
        CHECK.due("meetings() after a fault", x.meetings(), 0);
        CHECK.due("isSure() after a fault", x.isSure(), 1);
        CHECK.due("order(0) after a fault", x.order(0), -1);
        CHECK.due("reduce(\"a\") after a fault", Check.reduce(x, "a"), -3);
        Check.rules(x, "a=b;b=a;");
        CHECK.due("isSure() without an order", x.isSure(), -1);
    }
}
