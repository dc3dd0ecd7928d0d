/** Promises 10 to 13: meetings, meeting, closes, isSure. */
public final class MeetingsTest {
    private static final Check CHECK = new Check("MeetingsTest");

    public static void main(String[] args) {
        whereRulesMeet();
        wideFronts();
        whereTheyDoNot();
        noSuch();
        closing();
        refused();
        thousand();
        largeTerms();
        CHECK.finish();
    }

    /** The due text has "i j before closes" for each meeting. */
    private static TermRules is(String rules, int sure, String... due) {
        TermRules x = Check.with(rules);
        CHECK.due("meetings() of " + rules, x.meetings(), due.length);
        for (int k = 0; k < due.length; k++) {
            String got = x.meeting(k, 0) + " " + x.meeting(k, 1) + " " + x.meeting(k, 2) + " " + x.closes(k);
            CHECK.due("meeting " + k + " of " + rules, got, due[k]);
        }
        CHECK.due("isSure() of " + rules, x.isSure(), sure);
        return x;
    }

    private static void whereRulesMeet() {
        is("f(g(X),Y)=X;g(a)=b;", 0, "0 1 1 0");
        is("f(X,a)=X;f(b,Y)=Y;", 0, "1 0 0 0");
        is("f(X,a)=X;f(a,Y)=Y;", 1, "1 0 0 1");
        is("f(f(X))=g(X);", 0, "0 0 1 0");
        is("f(f(X))=X;", 1, "0 0 1 1");
        is("f(a)=c;a=b;a=d;", 0, "0 1 1 0", "0 2 1 0", "2 1 0 0");
        is("a=b;a=b;a=b;", 1, "1 0 0 1", "2 0 0 1", "2 1 0 1");
        is("g(g(X))=X;g(a)=a;", 1, "0 0 1 1", "0 1 1 1");
        is("f(g(a),g(a))=b;a=c;g(X)=X;", 0, "0 2 1 0", "0 1 2 0", "0 2 3 0", "0 1 4 0");
        is("m(e,X)=X;m(i(X),X)=e;m(m(X,Y),Z)=m(X,m(Y,Z));", 0, "2 0 1 1", "2 1 1 0", "2 2 1 1");
        is("f(X,X)=X;f(g(Y),Z)=Z;", 1, "1 0 0 1");
        is("f(X,g(X))=a;f(Y,Y)=b;f(g(Z),U)=c;", 0, "2 0 0 0", "2 1 0 0");
    }

    /** Fronts with forty nodes. */
    private static void wideFronts() {
        StringBuilder due = new StringBuilder("f(V0");
        StringBuilder front = new StringBuilder("f(X0");
        for (int k = 1; k < 39; k++) {
            due.append(",V").append(k);
            front.append(",X").append(k);
        }
        String turned = front.substring(2) + ")";
        TermRules x = is(front + ")=g(" + turned + ";" + front + ")=h(" + turned + ";", 0, "1 0 0 0");
        CHECK.due("side 0", Check.side(x, 0, 0, false), "g" + due.substring(1) + ")");
        CHECK.due("side 1", Check.side(x, 0, 1, true), "h" + due.substring(1) + ")");
        is(front + ")=X0;" + front + ")=X38;", 0, "1 0 0 0");
        is(front + ")=X38;" + front + ")=X38;", 1, "1 0 0 1");
        is("f(" + Check.repeat("a,", 38) + "X)=X;" + front + ")=X38;", 1, "1 0 0 1");
        is(Check.nest("s", 39, "X") + "=X;s(a)=a;", 1, wideDue());
    }

    private static String[] wideDue() {
        String[] due = new String[39];
        for (int p = 1; p <= 38; p++) {
            due[p - 1] = "0 0 " + p + " 1";
        }
        // The second front meets only the innermost s, which is read last.
        due[38] = "0 1 38 1";
        return due;
    }

    private static void whereTheyDoNot() {
        is("", 1);
        is("a=b;", 1);
        is("f(X)=X;", 1);
        is("f(X,X)=a;f(Y,g(Y))=b;", 1);
        is("f(X,X)=a;f(g(Y),g(g(Y)))=b;", 1);
        is("f(X,Y,X)=a;f(Z,g(Z),g(g(g(W))))=b;", 0, "1 0 0 0");
        is("f(X,Y,X,Y)=a;f(Z,g(Z),g(W),W)=b;", 1);
        is("f(a)=b;f(c)=b;", 1);
        is("a=b;b=a;", -1);
        is("a=a;", -1);
    }

    private static void noSuch() {
        TermRules x = Check.with("f(X,a)=X;f(a,Y)=Y;");
        int[] numbers = {-1, 1, 999, 1000, Integer.MIN_VALUE, Integer.MAX_VALUE};
        for (int k : numbers) {
            CHECK.due("meeting(" + k + ", 0)", x.meeting(k, 0), -1);
            CHECK.due("closes(" + k + ")", x.closes(k), -1);
        }
        int[] whats = {-1, 3, Integer.MIN_VALUE, Integer.MAX_VALUE};
        for (int what : whats) {
            CHECK.due("meeting(0, " + what + ")", x.meeting(0, what), -1);
        }
        TermRules unordered = Check.with("a=b;b=a;a=c;");
        CHECK.due("meetings without an order", unordered.meetings(), 1);
        CHECK.due("closes() without an order", unordered.closes(0), -4);
        CHECK.due("isSure() without an order", unordered.isSure(), -1);
    }

    private static void closing() {
        // Sides that are the same only when they are reduced, and only by several steps.
        is("f(g(X))=h(X);g(a)=b;h(a)=k;f(b)=k;", 1, "0 1 1 1");
        is("f(g(X))=h(X);g(a)=b;h(a)=k;", 0, "0 1 1 0");
        // They have different variables: open, though alike but for names.
        is("f(X,g(Y))=h(X);f(g(U),W)=h(W);", 0, "1 0 0 0");
        is("f(X,Y)=h(X);f(U,W)=h(W);", 0, "1 0 0 0");
        is("f(X,Y)=h(X);f(U,W)=h(U);", 1, "1 0 0 1");
        is("f(X,Y)=h(Y);f(U,W)=h(U);h(Z)=a;", 1, "1 0 0 1");
    }

    private static void refused() {
        TermRules x = is("a=g(g(g(b)));a=c;g(X)=h(X,X,X,X,X,X,X,X,X,X,X);", 0, "1 0 0 -4");
        CHECK.due("closes() again", x.closes(0), -4);
        is("a=c;a=g(g(g(b)));g(X)=h(X,X,X,X,X,X,X,X,X,X,X);", 0, "1 0 0 -4");
        // The first is refused, the second closes.
        is("a=b;l=l;a=l;l=b;", -1, "2 0 0 -4", "3 1 0 -4");
        // Refused, though both sides are the same.
        is("f(X)=X;l=l;f(l)=l;", -1, "2 0 0 -4", "2 1 1 -4");
    }

    /** Rules f(f(..X..)) all meet one another at each f. */
    private static void thousand() {
        StringBuilder rules = new StringBuilder("f(X)=a;");
        for (int k = 0; k < 17; k++) {
            rules.append(Check.nest("f", 30 + k % 3, "X")).append("=a;");
        }
        TermRules x = Check.with(rules + "b=c;b=d;");
        CHECK.due("meetings()", x.meetings(), 1000);
        int k = 0;
        for (int i = 1; i < 18 && k < 1000; i++) {
            int nodes = 30 + (i - 1) % 3;
            for (int p = 0; p < nodes && k < 1000; p++) {
                for (int j = 0; j < (p == 0 ? i : 18) && k < 1000; j++) {
                    CHECK.due("meeting(" + k + ", 0)", x.meeting(k, 0), i);
                    CHECK.due("meeting(" + k + ", 1)", x.meeting(k, 1), j);
                    CHECK.due("meeting(" + k + ", 2)", x.meeting(k, 2), p);
                    k++;
                }
            }
        }
        CHECK.due("all of them were looked at", k, 1000);
        CHECK.due("meeting(1000, 0)", x.meeting(1000, 0), -1);
        CHECK.due("closes(999)", x.closes(999), 1);
        CHECK.due("closes(1000)", x.closes(1000), -1);
        CHECK.due("write(1000, 0, false)", x.write(1000, 0, false), -1);
        CHECK.due("the open one is not of the first thousand", x.isSure(), 1);
        CHECK.due("it is open", Check.with("f(X)=a;b=c;b=d;").isSure(), 0);
    }

    /** What is put in can have far more nodes than the fronts. */
    private static void largeTerms() {
        for (int n = 1; n <= 9; n++) {
            TermRules x = Check.with(doubling(n, "X" + n, "Y" + n));
            CHECK.due("meetings() of " + n, x.meetings(), 1);
            // The term has 2 ^ (n + 1) - 1 nodes.
            CHECK.due("closes() of " + n, x.closes(0), n < 9 ? 1 : -4);
            CHECK.due("isSure() of " + n, x.isSure(), n < 9 ? 1 : 0);
            CHECK.due("bytes of " + n, x.write(0, 0, false), 6 * (1 << n) - 4);
            CHECK.due("reduced bytes of " + n, x.write(0, 0, true), n < 9 ? 6 * (1 << n) - 4 : -4);
        }
        TermRules twice = Check.with(doubling(8, "h(X8,X8)", "h(Y8,h(Y0,Y0))"));
        CHECK.due("1023 nodes", twice.closes(0), -4);
        CHECK.due("their bytes", twice.write(0, 0, false), 6 * 512 - 4);
        CHECK.due("reducing is refused", twice.write(0, 0, true), -4);
        CHECK.due("of the other side it is not", twice.write(0, 1, true) > 1500 ? 1 : 0, 1);
        TermRules often = Check.with(doubling(9, "h(X9,h(X9,Z))", "W"));
        CHECK.due("2049 nodes", often.write(0, 0, false), -1);
        CHECK.due("2049 nodes, reduced", often.write(0, 0, true), -4);
        CHECK.due("the variable is the second all the same", Check.side(often, 0, 1, false), "V1");
        CHECK.due("also reduced", Check.side(often, 0, 1, true), "V1");
        CHECK.due("closes(0)", often.closes(0), -4);
    }

    /** The second front makes of Y(n) a term of h's, with Y0 in it 2 ^ n times. */
    private static String doubling(int n, String other, String behind) {
        StringBuilder one = new StringBuilder("q(");
        StringBuilder two = new StringBuilder("q(");
        for (int k = 1; k <= n; k++) {
            one.append("X").append(k).append(',');
            two.append("h(Y").append(k - 1).append(",Y").append(k - 1).append("),");
        }
        for (int k = 1; k <= n; k++) {
            one.append("X").append(k).append(',');
            two.append("Y").append(k).append(',');
        }
        return one + "Z)=" + other + ";" + two + "W)=" + behind + ";";
    }
}
