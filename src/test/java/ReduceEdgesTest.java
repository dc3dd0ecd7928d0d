/** Section "Terms": MATCHES, STEP, NORMAL, and the two thousand steps and thousand nodes of TO REDUCE, by every call that reduces. */
public final class ReduceEdgesTest {
    private static final Check CHECK = new Check("ReduceEdgesTest");
    private static final int PARTS = 25;
    /** The symbols of what sized() makes, in a rule by which it is normal all the same. */
    private static final String SIZED = "w(" + "c,".repeat(PARTS - 1) + "c)=u(c);";
    private static final String THIRTEEN = "q(X)=w(" + "d(X),".repeat(12) + "d(X));";
    private static final String S38 = Check.nest("s", 38, "z");

    public static void main(String[] args) {
        matches();
        theSameForTheSameOne();
        noSuchPartWithin();
        farthestToTheLeft();
        theFirstRule();
        normal();
        twoThousandSteps();
        twoThousandStepsOfAPair();
        twoThousandStepsOfAMeeting();
        thousandNodesAtTheBeginning();
        thousandNodesAfterAStep();
        thousandNodesBetween();
        thousandNodesOfAPair();
        thousandNodesOfAMeeting();
        CHECK.finish();
    }

    private static void is(String rules, String term, int steps, String result) {
        TermRules x = Check.with(rules);
        CHECK.due("reduce '" + term + "' by " + rules, Check.reduce(x, term), steps);
        CHECK.due("place()", x.place(), -1);
        CHECK.due("result of '" + term + "' by " + rules, Check.result(x), result);
    }

    /** "when it is that with terms put in for its variables .. its other side with these put in". */
    private static void matches() {
        is("f(X)=g(X);", "f(Q)", 1, "g(Q)");
        is("f(X)=g(X);", "f(X)", 1, "g(X)");
        is("f(X)=g(X);", "f(g(g(R)))", 1, "g(g(g(R)))");
        is("f(a)=b;", "f(a)", 1, "b");
        is("f(a)=b;", "f(b)", 0, "f(b)");
        // A variable of the term is none of the rule's: nothing is put in for it.
        is("f(a)=b;", "f(X)", 0, "f(X)");
        is("f(g(X))=X;", "f(X)", 0, "f(X)");
        is("f(g(X))=X;", "f(g(g(Q)))", 1, "g(Q)");
        is("f(X,Y)=g(Y,X,Y);", "f(P,Q)", 1, "g(Q,P,Q)");
        is("f(X,Y)=g(Y,X,Y);", "f(Y,X)", 1, "g(X,Y,X)");
        is("f(X,Y)=Y;", "f(P,f(Q,R))", 2, "R");
        is("f(X)=a;", "f(Q)", 1, "a");
    }

    /** "the same for the same one". */
    private static void theSameForTheSameOne() {
        is("f(X,X)=X;", "f(P,P)", 1, "P");
        is("f(X,X)=X;", "f(P,Q)", 0, "f(P,Q)");
        is("f(X,Y,X)=Y;", "f(P,Q,P)", 1, "Q");
        is("f(X,Y,X)=Y;", "f(P,P,Q)", 0, "f(P,P,Q)");
        is("f(X,Y)=X;", "f(P,P)", 1, "P");
        is("f(X,X)=X;g(Y)=Y;a=b;", "f(g(a),b)", 3, "b");
        is("f(X,X)=a;s(s(s(a)))=a;", "f(s(s(P)),s(s(P)))", 1, "a");
        is("f(X,X)=a;s(s(s(a)))=a;", "f(s(s(P)),s(P))", 0, "f(s(s(P)),s(P))");
        is("f(X,X)=a;h(a,a)=h(a,a);", "f(h(P,h(P,Q)),h(P,h(P,Q)))", 1, "a");
        is("f(X,X)=a;h(a,a)=h(a,a);", "f(h(P,h(P,Q)),h(P,h(P,R)))", 0, "f(h(P,h(P,Q)),h(P,h(P,R)))");
        is("f(X,X)=a;h(a,a)=h(a,a);", "f(h(h(P,Q),P),h(h(R,Q),P))", 0, "f(h(h(P,Q),P),h(h(R,Q),P))");
    }

    /** "of all parts that match the front of a rule and have no other such part within themselves". */
    private static void noSuchPartWithin() {
        is("f(a)=c;a=b;", "f(a)", 1, "f(b)");
        is("k(X)=c;a=b;", "k(a)", 2, "c");
        is("g(X)=h(X,X);a=b;", "g(a)", 2, "h(b,b)");
        is("f(f(X))=X;", "f(f(f(Q)))", 1, "f(Q)");
        is("f(f(X))=g(X);", "f(f(f(Q)))", 1, "f(g(Q))");
        // What a step makes may have parts that match within itself; these come before it.
        is("f(X)=g(a);a=b;g(a)=c;g(b)=d;", "f(Q)", 3, "d");
        // What lies round it may match only then.
        is("h(c)=d;f(X)=c;", "h(f(Q))", 2, "d");
        CHECK.termDue("k(X)=c;l=l;", "k(l)", -4, -1);
        CHECK.termDue("k(X)=c;l=l;", "k(c)", 1, -1);
    }

    /** "the one farthest to the left": what grows later has more room. */
    private static void farthestToTheLeft() {
        String all = SIZED + "k(X)=c;g(X)=v(X,X);";
        String one = sized(400);
        CHECK.termDue(all, "v(k(" + one + "),g(" + one + "))", 2, -1);
        CHECK.termDue(all, "v(g(" + one + "),k(" + one + "))", -4, -1);
        CHECK.termDue(all, "v(k(Q),v(k(" + one + "),g(" + one + ")))", 3, -1);
        CHECK.termDue(all, "v(v(k(" + one + "),k(Q)),g(" + one + "))", 3, -1);
        CHECK.termDue(all, "v(v(k(Q),g(" + one + ")),k(" + one + "))", -4, -1);
    }

    /** "what the first rule whose front it matches makes of it". */
    private static void theFirstRule() {
        is("a=b;a=c;", "a", 1, "b");
        is("a=c;a=b;", "a", 1, "c");
        is("f(X)=b;f(a)=c;", "f(a)", 1, "b");
        is("f(a)=c;f(X)=b;", "f(a)", 1, "c");
        is("f(a)=c;f(X)=b;", "f(Q)", 1, "b");
        is("f(X,X)=b;f(X,Y)=c;", "f(P,P)", 1, "b");
        is("f(X,X)=b;f(X,Y)=c;", "f(P,Q)", 1, "c");
        StringBuilder rules = new StringBuilder();
        for (int k = 0; k < 19; k++) {
            rules.append("f(").append(Check.nest("s", k, "a")).append(")=b;");
        }
        is(rules + "f(X)=c;", "f(" + Check.nest("s", 18, "a") + ")", 1, "b");
        is(rules + "f(X)=c;", "f(" + Check.nest("s", 19, "a") + ")", 1, "c");
    }

    /** "A term is NORMAL when there is no step." */
    private static void normal() {
        is("", "Q", 0, "Q");
        is("a=b;", "b", 0, "b");
        is("f(a)=b;", "f(f(b))", 0, "f(f(b))");
        is("f(f(X))=X;", "f(Q)", 0, "f(Q)");
        is("f(f(X))=X;", "f(f(Q))", 1, "Q");
        // There is a step, though nothing becomes other by it.
        CHECK.termDue("a=a;", "a", -4, -1);
        CHECK.termDue("f(X)=f(X);", "f(Q)", -4, -1);
    }

    /** With these, d(s(..z)) of n s's takes 4n + 1 steps, each e takes one. */
    private static String steps(String q) {
        return q + "d(z)=z;d(s(X))=e(e(e(d(X))));e(X)=X;";
    }

    /** "REFUSED when that would take more than 2000 steps". */
    private static void twoThousandSteps() {
        TermRules x = Check.with(steps(THIRTEEN));
        CHECK.due("1 + 13 * 153 steps", Check.reduce(x, "q(" + S38 + ")"), 1990);
        for (int more = 0; more <= 15; more++) {
            boolean isTaken = 1990 + more <= 2000;
            CHECK.due(more + " steps more", Check.reduce(x, Check.nest("e", more, "q(" + S38 + ")")), isTaken ? 1990 + more : -4);
            CHECK.due("place()", x.place(), -1);
            CHECK.due("result()", Check.result(x), isTaken ? "w(" + "z,".repeat(12) + "z)" : "-1");
        }
        CHECK.due("steps begin anew with each term", Check.reduce(x, "e(z)"), 1);
    }

    /** The two thousand steps are those of each TERM; "-4 (one of both is refused)". */
    private static void twoThousandStepsOfAPair() {
        String rules = steps(THIRTEEN);
        String most = Check.nest("e", 10, "q(" + S38 + ")");
        String more = Check.nest("e", 11, "q(" + S38 + ")");
        CHECK.pairDue(rules, most + "=w(" + "z,".repeat(12) + "z)", 1, -1);
        CHECK.pairDue(rules, "w(" + "z,".repeat(12) + "z)=" + most, 1, -1);
        CHECK.pairDue(rules, most + "=" + most, 1, -1);
        CHECK.pairDue(rules, most + "=z", 0, -1);
        CHECK.pairDue(rules, more + "=z", -4, -1);
        CHECK.pairDue(rules, "z=" + more, -4, -1);
        CHECK.pairDue(rules, most + "=" + more, -4, -1);
        CHECK.pairDue(rules, more + "=" + most, -4, -1);
        CHECK.pairDue(rules, more + "=" + more, -4, -1);
    }

    /** The same of closes(), isSure() and write(), of either side: 13 * 153 steps and one for each e. */
    private static void twoThousandStepsOfAMeeting() {
        for (int e = 9; e <= 12; e++) {
            String heavy = "q(X)=w(" + "d(X),".repeat(13) + Check.nest("e", e, "z") + ");";
            String light = "q(" + S38 + ")=w(" + "z,".repeat(13) + "z);";
            boolean isTaken = 13 * 153 + e <= 2000;
            meets(steps(heavy + light), 0, isTaken, 30);
            meets(steps(light + heavy), 1, isTaken, 30);
        }
    }

    /** The only meeting closes when its large side is not refused; reduced, a side has so many bytes. */
    private static void meets(String rules, int large, boolean isTaken, int bytes) {
        TermRules x = Check.with(rules);
        CHECK.due("meetings() of " + rules, x.meetings(), 1);
        CHECK.due("closes(0) of " + rules, x.closes(0), isTaken ? 1 : -4);
        CHECK.due("isSure() of " + rules, x.isSure(), isTaken ? 1 : 0);
        CHECK.due("the large side", x.write(0, large, true), isTaken ? bytes : -4);
        CHECK.due("the other side", x.write(0, 1 - large, true), bytes);
        CHECK.due("the large side as it is", x.write(0, large, false) > 0 ? 1 : 0, 1);
    }

    /** A normal term with so many nodes, 26 at least: w of chains of u's. */
    private static String sized(int nodes) {
        StringBuilder text = new StringBuilder("w(");
        int left = nodes - 1;
        for (int k = PARTS; k > 0; k--) {
            int part = left / k;
            text.append(Check.nest("u", part - 1, "Q")).append(k == 1 ? ")" : ",");
            left -= part;
        }
        return text.toString();
    }

    /** "or the term has more than 1000 nodes at any time, the beginning too". */
    private static void thousandNodesAtTheBeginning() {
        for (int nodes = 997; nodes <= 1005; nodes++) {
            boolean isTaken = nodes <= 1000;
            is(SIZED, sized(nodes), isTaken ? 0 : -4, isTaken ? sized(nodes) : "-1");
            // It would have fewer after the first step.
            is(SIZED + "k(X)=c;", "k(" + sized(nodes - 1) + ")", isTaken ? 1 : -4, isTaken ? "c" : "-1");
        }
    }

    private static void thousandNodesAfterAStep() {
        for (int nodes = 497; nodes <= 503; nodes++) {
            String g = "g(" + sized(nodes) + ")";
            boolean isTaken = 1 + 2 * nodes <= 1000;
            is(SIZED + "g(X)=v(X,X);", g, isTaken ? 1 : -4, isTaken ? "v(" + sized(nodes) + "," + sized(nodes) + ")" : "-1");
            boolean isMoreTaken = 2 + 2 * nodes <= 1000;
            is(SIZED + "g(X)=v(X,X,c);", g, isMoreTaken ? 1 : -4,
                    isMoreTaken ? "v(" + sized(nodes) + "," + sized(nodes) + ",c)" : "-1");
        }
        // All of the term counts, not only the part that becomes another.
        for (int nodes = 497; nodes <= 503; nodes++) {
            String term = "v(" + sized(400) + ",g(" + sized(nodes - 201) + "))";
            CHECK.termDue(SIZED + "g(X)=v(X,X);", term, 402 + 2 * (nodes - 201) <= 1000 ? 1 : -4, -1);
            String turned = "v(g(" + sized(nodes - 201) + ")," + sized(401) + ")";
            CHECK.termDue(SIZED + "g(X)=v(X,X);", turned, 403 + 2 * (nodes - 201) <= 1000 ? 1 : -4, -1);
        }
    }

    /** "at any time": neither at the beginning nor at the end. */
    private static void thousandNodesBetween() {
        for (int nodes = 497; nodes <= 503; nodes++) {
            String g = "g(" + sized(nodes) + ")";
            is(SIZED + "g(X)=v(X,X);v(X,Y)=X;", g, 1 + 2 * nodes <= 1000 ? 2 : -4, 1 + 2 * nodes <= 1000 ? sized(nodes) : "-1");
            is(SIZED + "g(X)=v(X,X,c);v(X,Y,Z)=c;", g, 2 + 2 * nodes <= 1000 ? 2 : -4, 2 + 2 * nodes <= 1000 ? "c" : "-1");
        }
    }

    /** The thousand nodes are those of each TERM. */
    private static void thousandNodesOfAPair() {
        String rules = SIZED + "k(X)=c;";
        CHECK.pairDue(rules, sized(1000) + "=c", 0, -1);
        CHECK.pairDue(rules, "k(" + sized(999) + ")=c", 1, -1);
        CHECK.pairDue(rules, "c=k(" + sized(999) + ")", 1, -1);
        CHECK.pairDue(rules, "k(" + sized(1000) + ")=c", -4, -1);
        CHECK.pairDue(rules, "c=k(" + sized(1000) + ")", -4, -1);
        CHECK.pairDue(rules, sized(600) + "=" + sized(600), 1, -1);
        CHECK.pairDue(rules, sized(600) + "=" + sized(601), 0, -1);
    }

    /** The same of closes(), isSure() and write(), of either side: 27 times 37 nodes, w, and those behind. */
    private static void thousandNodesOfAMeeting() {
        String part = Check.nest("u", 36, "c");
        for (int behind = 0; behind <= 2; behind++) {
            String more = ",c".repeat(behind);
            String large = "q(X)=w(X" + ",X".repeat(26) + more + ");";
            String small = "q(" + part + ")=c;";
            // With this the side would be small after one step.
            String shrink = "w(X" + ",X".repeat(26) + more + ")=c;";
            meets(large + small + shrink, 0, behind == 0, 1);
            meets(small + large + shrink, 1, behind == 0, 1);
            String between = "q(X)=p(X);";
            String grow = "p(X)=w(X" + ",X".repeat(26) + more + ");";
            meets(between + small + grow + shrink, 0, behind == 0, 1);
            meets(small + between + grow + shrink, 1, behind == 0, 1);
        }
    }
}
