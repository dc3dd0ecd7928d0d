/** Section "Terms", ORDERS, and promise 7: each way in which a term is ABOVE another, the first order, its places. */
public final class OrderEdgesTest {
    private static final Check CHECK = new Check("OrderEdgesTest");

    public static void main(String[] args) {
        aVariableThatIsIn();
        aPartIsOrIsAbove();
        theSymbolComesBefore();
        aboveEachPart();
        theFirstPlaceThatDiffers();
        eachRuleMustEnd();
        rulesThatAreNone();
        everyOrderOfSix();
        theFirstOfSeveral();
        noSuchPlace();
        noOrder();
        CHECK.finish();
    }

    /** The order as a row of numbers; "none" when order(0) tells of none. */
    private static String order(TermRules x) {
        StringBuilder row = new StringBuilder();
        for (int k = 0; k < x.symbols() && x.order(0) >= 0; k++) {
            row.append(x.order(k));
        }
        return x.symbols() > 0 && row.isEmpty() ? "none" : row.toString();
    }

    private static void is(String rules, String due) {
        CHECK.due("the order of " + rules, order(Check.with(rules)), due);
    }

    /** "t is a variable that is in s, and s is not t". */
    private static void aVariableThatIsIn() {
        is("f(X)=X;", "0");
        is("f(f(f(X)))=X;", "0");
        is("f(X,Y)=X;", "0");
        is("f(X,Y)=Y;", "0");
        is("f(X,g(Y))=f(X,Y);", "01");
        // A variable is above nothing, itself too.
        is("f(X)=f(X);", "none");
        is("f(X,Y)=f(Y,Y);", "none");
        is("f(X,a)=f(a,X);", "none");
    }

    /** "s is f ( s1 , .. ), and one of s1 , .. is t or above t". */
    private static void aPartIsOrIsAbove() {
        is("f(a)=a;", "01");
        is("f(b,a)=a;", "012");
        is("f(g(a))=a;", "012");
        is("f(f(X))=f(X);", "0");
        is("f(g(X))=g(X);", "01");
        is("f(h(g(X)))=g(X);", "012");
        is("f(Y,h(g(X)))=g(X);", "012");
        // The part is above t, though all of s is not by its own symbol: here g must come before k.
        is("f(g(X))=k(X);k(X)=f(X);", "120");
        is("f(a)=b;b=f(c);", "1203");
        // It is t, and nothing else makes s above it: f comes last.
        is("f(g(X))=g(X);g(X)=f(X);", "10");
        is("f(Y,h(g(X),a))=h(g(X),a);a=f(b,b);g(X)=f(X,X);h(X,Y)=f(X,Y);", "12304");
        is("f(X)=f(X);", "none");
        is("f(a)=f(a);", "none");
    }

    /** "s is above each of t1 , .., and f comes before g in the row". */
    private static void theSymbolComesBefore() {
        is("a=b;", "01");
        is("a=a;", "none");
        is("f(a)=b;b=a;", "021");
        is("f(X)=g(X);", "01");
        is("f(X)=g(X,X);", "01");
        is("f(X)=g(g(g(X)));", "01");
        is("g(X)=X;f(X)=g(X);", "10");
        is("f(X)=g(X);g(X)=h(X);", "012");
        is("f(X)=g(X);g(X)=f(X);", "none");
    }

    /** "s is above each of t1 , ..": with one that it is not above there is no order. */
    private static void aboveEachPart() {
        is("f(X)=g(f(X));", "none");
        is("f(X)=g(X,f(X));", "none");
        is("f(X)=g(f(X),X);", "none");
        is("f(h(X))=g(f(X),X);", "012");
        is("f(f(X))=g(f(X),X);", "01");
        is("f(g(X),Y)=f(X,f(X,f(X,Y)));", "01");
        is("f(g(X),Y)=f(X,f(Y,Y));", "none");
        is("f(g(X),Y)=f(X,h(Y));", "012");
        is("f(g(X),Y)=f(X,h(Y));h(X)=f(X,X);", "none");
        is("f(g(X),Y)=f(X,h(Y));h(X)=g(X);", "021");
        is("a=f(b,c);", "0123");
        is("a=f(b,a);", "none");
    }

    /** "or f is g and at the first place at which s1 , .. and t1 , .. differ that of s is above that of t". */
    private static void theFirstPlaceThatDiffers() {
        is("f(g(X))=f(X);", "01");
        is("f(X)=f(g(X));", "none");
        is("f(g(X),X)=f(X,g(X));", "01");
        is("f(X,g(X))=f(g(X),X);", "none");
        is("f(X,g(Y))=f(X,Y);", "01");
        is("f(X,Y)=f(X,g(Y));", "none");
        is("f(X,g(Y),Y,Y)=f(X,Y,g(Y),g(Y));", "01");
        is("f(X,Y,g(Y),g(Y))=f(X,g(Y),Y,Y);", "none");
        is("f(X,X,g(Y))=f(X,X,Y);", "01");
        is("f(X,X,Y)=f(X,X,g(Y));", "none");
        is("f(a,b)=f(b,a);", "012");
        is("f(b,a)=f(a,b);b=a;", "012");
        is("f(b,a)=f(a,b);a=b;", "none");
        is("f(a,b)=f(b,c);", "0123");
        is("f(a,X)=f(b,g(X));c=a;", "03412");
        is("m(m(X,Y),Z)=m(X,m(Y,Z));", "0");
        is("m(X,m(Y,Z))=m(m(X,Y),Z);", "none");
    }

    /** "Rules END by an order when each one's front is above its other side." */
    private static void eachRuleMustEnd() {
        String good = "f(X)=X;";
        for (int count = 1; count <= 19; count++) {
            is(good.repeat(count), "0");
            is(good.repeat(count) + "f(X)=f(X);", "none");
            is("f(X)=f(X);" + good.repeat(count), "none");
        }
        is("a=b;b=c;", "012");
        is("a=b;b=c;c=a;", "none");
        // Each ends by some order, but not both by one.
        is("f(g(X))=g(f(X));", "01");
        is("g(f(X))=f(g(X));", "01");
        is("f(g(X))=g(f(X));g(f(X))=f(g(X));", "none");
    }

    /** "(Rules that are none end by the order without symbols.)" */
    private static void rulesThatAreNone() {
        for (String text : new String[] {"", "  ", "a=b", "X=a;"}) {
            TermRules x = Check.with("a=b;b=a;");
            CHECK.due("isSure() without an order", x.isSure(), -1);
            Check.rules(x, text);
            CHECK.due("isSure() after '" + text + "'", x.isSure(), 1);
            CHECK.due("order(0) after '" + text + "'", x.order(0), -1);
            CHECK.due("order(-1) after '" + text + "'", x.order(-1), -1);
        }
        CHECK.due("isSure() of a new object", new TermRules().isSure(), 1);
    }

    /** "An order is a row of all symbols, the greatest one first": each of the 720 rows is the only one of some rules. */
    private static void everyOrderOfSix() {
        for (int symbols = 1; symbols <= 6; symbols++) {
            rows("", symbols);
        }
    }

    private static void rows(String begun, int symbols) {
        if (begun.length() == symbols) {
            isTheOnlyRow(begun);
        }
        for (int next = 0; next < symbols; next++) {
            if (begun.indexOf('0' + next) < 0) {
                rows(begun + next, symbols);
            }
        }
    }

    private static void isTheOnlyRow(String row) {
        StringBuilder rules = new StringBuilder(named(row.length()));
        for (int k = 1; k < row.length(); k++) {
            rules.append(before(row.charAt(k - 1), row.charAt(k)));
        }
        is(rules.toString(), row);
    }

    /** A rule that ends by all orders, in which the symbols s0, s1, .. are read first in this row. */
    private static String named(int symbols) {
        StringBuilder front = new StringBuilder("X");
        for (int k = symbols - 1; k >= 0; k--) {
            front.insert(0, "s" + k + "(").append(')');
        }
        return front + "=X;";
    }

    /** A rule that ends by just the orders in which one symbol comes before the other. */
    private static String before(char one, char other) {
        return "s" + one + "(X)=s" + other + "(X);";
    }

    /** "THE ORDER is the first one": of all rules that say of four symbols which comes before which. */
    private static void theFirstOfSeveral() {
        for (int pairs = 0; pairs < 1 << 12; pairs++) {
            boolean[][] isBefore = new boolean[4][4];
            StringBuilder rules = new StringBuilder(named(4));
            int bit = 0;
            for (int one = 0; one < 4; one++) {
                for (int other = 0; other < 4; other++) {
                    if (one != other && (pairs >> bit++ & 1) == 1) {
                        isBefore[one][other] = true;
                        rules.append(before((char) ('0' + one), (char) ('0' + other)));
                    }
                }
            }
            is(rules.toString(), leastRow(isBefore));
        }
    }

    /** Takes the least symbol that no other one must come before, again and again. */
    private static String leastRow(boolean[][] isBefore) {
        StringBuilder row = new StringBuilder();
        for (int place = 0; place < isBefore.length; place++) {
            int least = -1;
            for (int one = isBefore.length - 1; one >= 0; one--) {
                boolean isFree = row.indexOf(String.valueOf(one)) < 0;
                for (int other = 0; other < isBefore.length; other++) {
                    isFree &= !isBefore[other][one] || row.indexOf(String.valueOf(other)) >= 0;
                }
                least = isFree ? one : least;
            }
            if (least < 0) {
                return "none";
            }
            row.append(least);
        }
        return row.toString();
    }

    /** "The symbol at a place, from 0, of the order; NONE when .. no such place." */
    private static void noSuchPlace() {
        for (int symbols = 1; symbols <= 6; symbols++) {
            TermRules x = Check.with(named(symbols));
            for (int place = 0; place < symbols; place++) {
                CHECK.due("order(" + place + ") of " + symbols, x.order(place), place);
            }
            int[] none = {-1, -2, symbols, symbols + 1, 6, 7, Integer.MIN_VALUE, Integer.MAX_VALUE};
            for (int place : none) {
                CHECK.due("order(" + place + ") of " + symbols, x.order(place), -1);
            }
        }
    }

    /** "NONE when there is no order": at all places, after one that was as well. */
    private static void noOrder() {
        TermRules x = Check.with(named(6));
        CHECK.due("order(5)", x.order(5), 5);
        Check.rules(x, named(6) + before('5', '5'));
        for (int place = -1; place <= 6; place++) {
            CHECK.due("order(" + place + ") without one", x.order(place), -1);
        }
        CHECK.due("isSure() without one", x.isSure(), -1);
        Check.rules(x, named(6) + before('5', '4'));
        CHECK.due("order(4) with one again", x.order(4), 5);
        CHECK.due("order(5) with one again", x.order(5), 4);
    }
}
