/** Promises 8, 9 and 12 where there is much to do: held against the Oracle's answers. */
public final class HeavyTest {
    private static final Check CHECK = new Check("HeavyTest");

    public static void main(String[] args) {
        String numbers = "add(z,Y)=Y;add(s(X),Y)=s(add(X,Y));mul(z,Y)=z;mul(s(X),Y)=add(Y,mul(X,Y));";
        for (int a = 24; a <= 36; a += 3) {
            for (int b = 24; b <= 36; b += 3) {
                reduce(numbers, "mul(" + Check.nest("s", a, "z") + "," + Check.nest("s", b, "Q") + ")");
            }
        }
        reduce(numbers, "add(mul(" + Check.nest("s", 20, "z") + "," + Check.nest("s", 20, "z") + "),mul("
                + Check.nest("s", 20, "z") + "," + Check.nest("s", 20, "z") + "))");
        // Each step leaves some thirty nodes behind that nothing needs any more.
        String waste = "go(s(X),Y)=go(X,w(X,k,k,k,X,X,k,k,k,k,k,k,k,k,k,k));go(z,Y)=Y;e(X,X)=X;";
        for (int n = 10; n < 57; n += 5) {
            reduce(waste, "go(" + Check.nest("s", n, "z") + ",A)");
        }
        // Counting in twos: long runs, and terms that are the same without being shared.
        String count = "c(z,Y)=Y;c(s(X),Y)=t(c(X,Y),c(X,Y));t(X,X)=p(X,u,u,u,u,u,u,u,u,u,u,u,u);";
        for (int n = 1; n < 12; n++) {
            reduce(count, "c(" + Check.nest("s", n, "z") + ",A)");
        }
        String tower = "d(z)=z;d(s(X))=s(s(d(X)));x(z)=s(z);x(s(X))=d(x(X));";
        for (int n = 1; n < 12; n++) {
            reduce(tower, "x(" + Check.nest("s", n, "z") + ")");
        }
        String waves = "r(z,Y)=Y;r(s(X),Y)=r(X,v(Y,Y,Y));"
                + "v(X,X,Y)=f(X,a,a,a,a,a,a,a,a,a,a,a,a,a);f(X,a,a,a,a,a,a,a,a,a,a,a,a,a)=X;";
        for (int n = 1; n < 57; n += 4) {
            reduce(waves, "r(" + Check.nest("s", n, "z") + ",B)");
        }
        String ack = "k(z,Y)=s(Y);k(s(X),z)=k(X,s(z));k(s(X),s(Y))=k(X,k(s(X),Y));";
        for (int n = 0; n < 6; n++) {
            reduce(ack, "k(s(s(z))," + Check.nest("s", 3 * n, "z") + ")");
            reduce(ack, "k(s(s(s(z)))," + Check.nest("s", n, "z") + ")");
        }
        packed();
        CHECK.finish();
    }

    /** Two thousand steps, each with a wide normal term that is thrown away, beside terms that stay. */
    private static void packed() {
        String rules = "d(z,Y)=Y;d(s(X),Y)=d(X,w(Y,u,u,u,u,u,u,u,u,u,u,u,u,u,u,u,u,u,u,u,u,u,u,u,u,u,u,u,u,u,u));"
                + "w(X,u,u,u,u,u,u,u,u,u,u,u,u,u,u,u,u,u,u,u,u,u,u,u,u,u,u,u,u,u,u)=l(X,X,u);l(X,X,Y)=X;";
        String d = "d(" + Check.nest("s", 30, "z") + ",l(A,B,u))";
        reduce(rules, d);
        reduce(rules, "l(" + d + "," + d + ",z)");
        StringBuilder all = new StringBuilder("l(A,B,C)");
        for (int k = 1; k <= 23; k++) {
            all.insert(0, "l(" + d + ",").append(k % 2 == 0 ? ",u)" : ",s(C))");
            if (k > 18) {
                reduce(rules, all.toString());
            }
        }
    }

    private static void reduce(String rules, String term) {
        TermRules x = Check.with(rules);
        Oracle oracle = new Oracle();
        feed(oracle, rules);
        oracle.rules(rules.length());
        feed(oracle, term);
        int due = oracle.reduce(term.length());
        CHECK.due("reduce " + term + " by " + rules, Check.reduce(x, term), due);
        CHECK.due("place()", x.place(), oracle.place());
        CHECK.due("result()", x.result(), oracle.result());
        boolean isSame = true;
        for (int i = 0; i <= 4000; i++) {
            isSame &= x.written(i) == oracle.written(i);
        }
        CHECK.due("what is written", isSame ? 1 : 0, 1);
        CHECK.due("the text is good", due == -2 || due == -3 ? 0 : 1, 1);
        if (2 * term.length() < 4000) {
            CHECK.due("same", Check.same(x, term + "=" + term), due == -4 ? -4 : 1);
        }
        CHECK.due("reduce again", Check.reduce(x, term), due);
        CHECK.due("the order's first", x.order(0), oracle.order(0));
        CHECK.due("isSure()", x.isSure(), oracle.isSure());
    }

    private static void feed(Oracle oracle, String text) {
        for (int from = 0; from < text.length(); from += 20) {
            oracle.feed(Check.four(text, from), Check.four(text, from + 4), Check.four(text, from + 8),
                    Check.four(text, from + 12), Check.four(text, from + 16));
        }
    }
}
