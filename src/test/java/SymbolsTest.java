/** Promises 5 and 6: symbols, parts. */
public final class SymbolsTest {
    private static final Check CHECK = new Check("SymbolsTest");

    public static void main(String[] args) {
        TermRules x = Check.with("f(X,g(Y),c)=h(h(X,Y,k),X,X);");
        CHECK.due("symbols()", x.symbols(), 5);
        int[] due = {-1, 3, 1, 0, 3, 0, -1, -1};
        for (int k = 0; k < due.length; k++) {
            CHECK.due("parts(" + (k - 1) + ")", x.parts(k - 1), due[k]);
        }
        CHECK.due("parts(least)", x.parts(Integer.MIN_VALUE), -1);
        CHECK.due("parts(most)", x.parts(Integer.MAX_VALUE), -1);
        Check.reduce(x, "f(U,W,c)");
        CHECK.due("symbols() after a term", x.symbols(), 5);

        TermRules six = Check.with("f(a,b)=c;d=e;");
        CHECK.due("six symbols", six.symbols(), 6);
        CHECK.due("parts(5)", six.parts(5), 0);
        Check.rules(six, "f(a,b)=c;d=e;g=a;");
        CHECK.due("symbols() after seven", six.symbols(), 0);
        CHECK.due("parts(0) after seven", six.parts(0), -1);

        TermRules wide = Check.with("w(" + Check.repeat("X,", 38) + "X)=X;");
        CHECK.due("thirty-nine parts", wide.parts(0), 39);
        CHECK.finish();
    }
}
