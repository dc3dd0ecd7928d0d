/** Promise 7: order. */
public final class OrderTest {
    private static final Check CHECK = new Check("OrderTest");

    public static void main(String[] args) {
        is("", "");
        is("a=b;", "01");
        is("a=a;", "none");
        is("a=b;b=c;c=a;", "none");
        is("b=a;c=b;d=c;", "3201");
        is("a=b;b=a;", "none");
        is("f(X)=X;", "0");
        is("f(X)=f(X);", "none");
        is("f(f(X))=f(X);", "0");
        is("f(X)=f(f(X));", "none");
        is("f(X,Y)=f(Y,X);", "none");
        is("f(g(X),Y)=f(X,f(Y,Y));", "none");
        is("f(g(X),Y)=f(X,g(Y));", "01");
        is("f(X,g(Y))=f(g(X),Y);", "none");
        is("f(g(X),Y)=g(f(X,f(X,Y)));", "01");
        is("g(f(X))=f(g(X));", "01");
        is("f(g(X))=g(g(f(X)));g(h(X))=h(h(g(X)));", "012");
        is("h(g(X))=g(h(X));f(h(X))=h(f(X));", "201");
        is("m(m(X,Y),Z)=m(X,m(Y,Z));", "0");
        is("m(X,m(Y,Z))=m(m(X,Y),Z);", "none");
        is("i(m(X,Y))=m(i(Y),i(X));", "01");
        is("a=b;c=d;e=f;", "012345");
        is("a=b;b=c;c=d;d=e;e=f;", "012345");
        is("b=a;c=b;d=c;e=d;f=e;", "543201");
        is("a=b;c=a;d=c;e=d;f=e;", "543201");
        is("add(z,Y)=Y;add(s(X),Y)=s(add(X,Y));mul(z,Y)=z;mul(s(X),Y)=add(Y,mul(X,Y));", "1302");
        is("ack(z,Y)=s(Y);ack(s(X),z)=ack(X,s(z));ack(s(X),s(Y))=ack(X,ack(s(X),Y));", "012");
        // a must be over f here, though it is a part of f's.
        is("f(a,X)=g(X);a=f(g(c),c);", "1023");
        places();
        CHECK.finish();
    }

    private static void is(String rules, String due) {
        TermRules x = Check.with(rules);
        StringBuilder row = new StringBuilder();
        for (int k = 0; k < x.symbols(); k++) {
            row.append(x.order(k) < 0 ? "none" : String.valueOf(x.order(k)));
        }
        String got = row.toString();
        CHECK.due("the order of " + rules, got.startsWith("none") ? "none" : got, due);
        CHECK.due("isSure() of " + rules, x.isSure() == -1 ? 1 : 0, due.equals("none") ? 1 : 0);
    }

    private static void places() {
        TermRules x = Check.with("b=a;");
        CHECK.due("order(-1)", x.order(-1), -1);
        CHECK.due("order(0)", x.order(0), 0);
        CHECK.due("order(1)", x.order(1), 1);
        CHECK.due("order(2)", x.order(2), -1);
        CHECK.due("order(least)", x.order(Integer.MIN_VALUE), -1);
        CHECK.due("order(most)", x.order(Integer.MAX_VALUE), -1);
        TermRules six = Check.with("a=b;c=d;e=f;");
        CHECK.due("order(5)", six.order(5), 5);
        CHECK.due("order(6)", six.order(6), -1);
    }
}
