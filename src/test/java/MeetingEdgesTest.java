/** Section "Terms", MEETINGS, and promises 10 to 13: where rules meet and where not, numbers, the thousand, closing. */
public final class MeetingEdgesTest {
    private static final Check CHECK = new Check("MeetingEdgesTest");

    public static void main(String[] args) {
        partsThatAreNoVariable();
        becomeTheSame();
        differentVariables();
        notARuleWithItself();
        onlyForOneBefore();
        theLeastThatIsNeeded();
        theSides();
        numbered();
        aThousandAreCounted();
        theLastThatIsCounted();
        noSuchMeeting();
        noSuchWhat();
        nodesReadBefore();
        closesOrIsOpen();
        refused();
        sure();
        CHECK.finish();
    }

    /** All meetings as "i j before", with / between. */
    private static String meetings(TermRules x) {
        StringBuilder all = new StringBuilder();
        for (int k = 0; k < x.meetings(); k++) {
            all.append(k == 0 ? "" : "/").append(x.meeting(k, 0)).append(' ').append(x.meeting(k, 1));
            all.append(' ').append(x.meeting(k, 2));
        }
        return all.toString();
    }

    private static void is(String rules, String due) {
        CHECK.due("the meetings of " + rules, meetings(Check.with(rules)), due);
    }

    private static void sides(String rules, int k, String side0, String side1) {
        TermRules x = Check.with(rules);
        CHECK.due("side 0 of " + k + " of " + rules, Check.side(x, k, 0, false), side0);
        CHECK.due("side 1 of " + k + " of " + rules, Check.side(x, k, 1, false), side1);
    }

    /** "at a part of the front of i that is no variable". */
    private static void partsThatAreNoVariable() {
        is("", "");
        is("a=b;", "");
        is("f(X)=X;", "");
        is("f(X)=X;a=b;", "");
        is("f(a)=b;a=b;", "0 1 1");
        is("f(X,a)=b;a=b;", "0 1 2");
        is("f(g(X))=X;g(Y)=Y;", "0 1 1");
        is("f(g(X),Y)=X;f(Z,h(Z))=Z;", "1 0 0");
        // Of a rule only the front has parts at which it meets another.
        is("b=f(a);a=b;", "");
    }

    /** "when that part and the front of j become the same by putting terms in for variables". */
    private static void becomeTheSame() {
        is("f(a)=a;f(a)=a;", "1 0 0");
        is("f(a)=a;f(b)=a;", "");
        is("f(a)=a;g(a)=a;", "");
        is("f(X)=a;f(b)=a;", "1 0 0");
        is("f(X,X)=a;f(Y,Y)=b;", "1 0 0");
        is("f(X,X,X)=a;f(Y,g(Z),Y)=b;", "1 0 0");
        is("f(X,X)=a;f(a,a)=a;", "1 0 0");
        is("f(X,X)=a;f(a,b)=a;", "");
        is("f(X,X)=a;f(a,Y)=a;", "1 0 0");
        is("f(X,X)=a;f(g(Y),g(b))=a;", "1 0 0");
        is("f(X,X,Y,Y)=a;f(b,Z,Z,b)=a;", "1 0 0");
        is("f(X,X,Y,Y)=a;f(b,Z,Z,c)=a;", "");
        // Nothing can be put in for a variable that is in what it would have to become.
        is("f(X,X)=a;f(Y,g(Y))=a;", "");
        is("f(X,X)=a;f(Y,g(Z))=a;", "1 0 0");
        is("f(X,Y,X,Y)=a;f(Z,W,g(W),g(Z))=a;", "");
        is("f(X,Y,X,Y)=a;f(Z,W,g(W),g(V))=a;", "1 0 0");
        is("f(X,X,Y)=a;f(Y,Z,g(Y,Z))=a;", "1 0 0");
        is("f(X,X)=a;f(Y,b)=a;f(Z,g(Z))=a;f(U,U)=a;", "1 0 0/3 0 0/3 1 0");
    }

    /** "(those of both rules are different ones)". */
    private static void differentVariables() {
        is("f(g(h(X)))=X;g(X)=X;", "0 1 1");
        is("f(X,h(X))=a;f(h(X),X)=a;", "");
        is("f(X,h(Y))=a;f(h(X),Y)=a;", "1 0 0");
        is("f(h(X),Y)=a;f(X,X)=a;", "1 0 0");
        sides("f(X,g(Y))=h(X);f(Y,X)=k(X,Y);", 0, "h(V0)", "k(g(V1),V0)");
        sides("f(f(X))=g(X);", 0, "f(g(V0))", "g(f(V0))");
    }

    /** "not for i = j at all of the front". */
    private static void notARuleWithItself() {
        is("f(X)=a;", "");
        is("f(f(X))=a;", "0 0 1");
        is("f(f(f(X)))=a;", "0 0 1/0 0 2");
        is("f(X,f(Y,Z))=a;", "0 0 2");
        is("f(f(X,a),f(b,Y))=a;", "");
        is("f(f(X,Y),f(Z,U))=a;", "0 0 1/0 0 4");
    }

    /** "and at all of the front only for j before i". */
    private static void onlyForOneBefore() {
        is("a=b;a=c;", "1 0 0");
        is("a=b;a=c;a=d;", "1 0 0/2 0 0/2 1 0");
        is("f(a)=b;f(X)=c;", "1 0 0");
        is("f(X)=c;f(a)=b;", "1 0 0");
        // At other parts for all j: before i, i, behind i.
        is("g(X)=a;g(g(Y))=a;g(b)=a;", "1 0 0/1 0 1/1 1 1/1 2 1/2 0 0");
        is("a=b;".repeat(20), twentyOfOne());
    }

    private static String twentyOfOne() {
        StringBuilder all = new StringBuilder();
        for (int i = 1; i < 20; i++) {
            for (int j = 0; j < i; j++) {
                all.append(all.isEmpty() ? "" : "/").append(i).append(' ').append(j).append(" 0");
            }
        }
        return all.toString();
    }

    /** "Put in is then the least that is needed." */
    private static void theLeastThatIsNeeded() {
        sides("f(X,Y)=g(X,Y);f(Z,U)=h(Z,U);", 0, "g(V0,V1)", "h(V0,V1)");
        sides("f(X,X)=g(X,X);f(Z,U)=h(Z,U);", 0, "g(V0,V0)", "h(V0,V0)");
        sides("f(X,k(Y))=g(X,Y);f(Z,U)=h(Z,U);", 0, "g(V0,V1)", "h(V0,k(V1))");
        sides("f(X,k(a))=g(X,X);f(Z,k(U))=h(Z,U);", 0, "g(V0,V0)", "h(V0,a)");
        sides("f(X,X)=g(X,X);f(k(Y),k(k(Z)))=h(Y,Z);", 0, "g(k(k(V0)),k(k(V0)))", "h(k(V0),V0)");
        // A variable that is in neither front's part is left as it is.
        sides("f(g(X),Y)=h(X,Y);g(a)=b;", 0, "f(b,V0)", "h(a,V0)");
        // What is put in is put in all over the front, before the part and behind it.
        sides("f(X,g(X),X)=h(X);g(a)=b;", 0, "f(a,b,a)", "h(a)");
    }

    /** "The SIDES of a meeting: 0: the front of i .. 1: the other side of i with all put in." */
    private static void theSides() {
        sides("a=b;a=c;", 0, "b", "c");
        sides("f(a,a)=c;a=b;", 0, "f(b,a)", "c");
        sides("f(a,a)=c;a=b;", 1, "f(a,b)", "c");
        sides("f(g(a),a)=c;a=b;g(X)=h(X,X);", 0, "f(h(a,a),a)", "c");
        sides("f(g(a),a)=c;a=b;g(X)=h(X,X);", 1, "f(g(b),a)", "c");
        sides("f(g(a),a)=c;a=b;g(X)=h(X,X);", 2, "f(g(a),b)", "c");
        sides("m(m(X,Y),Z)=m(X,m(Y,Z));", 0, "m(m(V0,m(V1,V2)),V3)", "m(m(V0,V1),m(V2,V3))");
    }

    /** "numbered from 0: by i, then by the part (as parts are read: ..), then by j." */
    private static void numbered() {
        is("f(g(a),g(a))=b;a=c;g(X)=X;", "0 2 1/0 1 2/0 2 3/0 1 4");
        is("a=c;g(X)=X;f(g(a),g(a))=b;", "2 1 1/2 0 2/2 1 3/2 0 4");
        is("f(f(X))=a;f(f(f(X)))=b;f(a)=c;", "0 0 1/0 1 1/0 2 1/1 0 0/1 0 1/1 1 1/1 0 2/1 1 2/1 2 2");
    }

    /** So many meetings, all of which close, of six rules with f alone; and pairs of rules that meet once. */
    private static String many(String... pairs) {
        StringBuilder rules = new StringBuilder("f(X)=a;");
        for (int n : new int[] {34, 34, 34, 34, 33}) {
            rules.append(Check.nest("f", n, "X")).append("=a;");
        }
        return rules + String.join("", pairs);
    }

    /** "How many meetings there are (1000 are counted at most)." */
    private static void aThousandAreCounted() {
        // Each of the six meets each at each of its inner f's, 164 in all, and at all of the front the ones before.
        CHECK.due("6 * 164 + 15", Check.with(many()).meetings(), 999);
        CHECK.due("one more", Check.with(many("b=a;b=a;")).meetings(), 1000);
        CHECK.due("two more", Check.with(many("b=a;b=a;", "c=a;c=a;")).meetings(), 1000);
        CHECK.due("three more", Check.with(many("b=a;b=a;b=a;")).meetings(), 1000);
        CHECK.due("far more", Check.with((Check.nest("f", 39, "X") + "=a;").repeat(20)).meetings(), 1000);
    }

    /** "Of a meeting (0 .. 999)"; "all meetings (of the first 1000) close". */
    private static void theLastThatIsCounted() {
        TermRules x = Check.with(many());
        lastIs(x, 998, "5 5 32", 1);
        CHECK.due("isSure() of 999", x.isSure(), 1);
        TermRules open = Check.with(many("b=a;b=c;"));
        lastIs(open, 999, "7 6 0", 0);
        CHECK.due("the thousandth is open", open.isSure(), 0);
        TermRules closed = Check.with(many("b=a;b=a;"));
        lastIs(closed, 999, "7 6 0", 1);
        CHECK.due("the thousandth closes", closed.isSure(), 1);
        TermRules beyond = Check.with(many("b=a;b=a;", "c=a;c=d;"));
        lastIs(beyond, 999, "7 6 0", 1);
        CHECK.due("one beyond the thousandth is open", beyond.isSure(), 1);
        CHECK.due("alone it is counted", Check.with("c=a;c=d;").isSure(), 0);
        TermRules both = Check.with(many("b=a;b=d;", "c=a;c=a;"));
        CHECK.due("the thousandth is open, the next closes", both.isSure(), 0);
    }

    private static void lastIs(TermRules x, int k, String due, int closes) {
        CHECK.due("meeting " + k, x.meeting(k, 0) + " " + x.meeting(k, 1) + " " + x.meeting(k, 2), due);
        CHECK.due("closes(" + k + ")", x.closes(k), closes);
        CHECK.due("write(" + k + ", 1, false)", x.write(k, 1, false), 1);
        for (int next = k + 1; next <= 1001; next++) {
            CHECK.due("meeting(" + next + ", 0)", x.meeting(next, 0), -1);
            CHECK.due("meeting(" + next + ", 2)", x.meeting(next, 2), -1);
            CHECK.due("closes(" + next + ")", x.closes(next), -1);
            CHECK.due("write(" + next + ", 0, false)", x.write(next, 0, false), -1);
            CHECK.due("write(" + next + ", 0, true)", x.write(next, 0, true), -1);
        }
    }

    /** "NONE when there is none such." */
    private static void noSuchMeeting() {
        for (int count = 0; count <= 6; count++) {
            TermRules x = Check.with(Check.nest("f", count, "f(X)") + "=a;");
            CHECK.due("meetings()", x.meetings(), count);
            for (int k = 0; k < count; k++) {
                CHECK.due("meeting(" + k + ", 2) of " + count, x.meeting(k, 2), k + 1);
            }
            int[] none = {-1, -2, count, count + 1, 999, 1000, Integer.MIN_VALUE, Integer.MAX_VALUE};
            for (int k : none) {
                for (int what = 0; what <= 2; what++) {
                    CHECK.due("meeting(" + k + ", " + what + ") of " + count, x.meeting(k, what), -1);
                }
                CHECK.due("closes(" + k + ") of " + count, x.closes(k), -1);
            }
        }
    }

    /** "what = 0 rule i, 1 rule j, 2 how many nodes of the front of i are read before the part. NONE when there is none such." */
    private static void noSuchWhat() {
        TermRules x = Check.with("c=d;f(b,a)=c;a=c;");
        int[] due = {1, 2, 2};
        for (int what = 0; what <= 2; what++) {
            CHECK.due("meeting(0, " + what + ")", x.meeting(0, what), due[what]);
        }
        int[] none = {-1, -2, 3, 4, Integer.MIN_VALUE, Integer.MAX_VALUE};
        for (int what : none) {
            CHECK.due("meeting(0, " + what + ")", x.meeting(0, what), -1);
        }
    }

    /** "how many nodes of the front of i are read before the part": none for all of it, 39 at most. */
    private static void nodesReadBefore() {
        is("a=b;a=b;", "1 0 0");
        is("f(a)=b;a=b;", "0 1 1");
        is("f(X,g(Y,a),a)=b;a=b;", "0 1 4/0 1 5");
        is("f(" + "X,".repeat(38) + "a)=b;a=b;", "0 1 39");
        is(Check.nest("f", 39, "a") + "=b;a=b;", "0 1 39");
    }

    /** "A meeting CLOSES when both sides can be reduced, to the same term; it is OPEN when to different ones." */
    private static void closesOrIsOpen() {
        CHECK.due("the same at once", Check.with("a=b;a=b;").closes(0), 1);
        CHECK.due("different ones", Check.with("a=b;a=c;").closes(0), 0);
        CHECK.due("the same after a step of side 0", Check.with("a=b;a=c;b=c;").closes(0), 1);
        CHECK.due("the same after a step of side 1", Check.with("a=b;a=c;c=b;").closes(0), 1);
        CHECK.due("the same after steps of both", Check.with("a=b;a=c;c=d;b=d;").closes(0), 1);
        CHECK.due("different ones after steps", Check.with("a=b;a=c;c=d;b=e;").closes(0), 0);
        CHECK.due("they could come together, but not by the first rules", Check.with("a=b;a=c;b=d;b=c;").closes(0), 0);
        CHECK.due("variables that are the same", Check.with("f(X,Y)=X;f(Z,U)=Z;").closes(0), 1);
        CHECK.due("variables that are not", Check.with("f(X,Y)=X;f(Z,U)=U;").closes(0), 0);
        CHECK.due("alike but for variables", Check.with("f(X,Y)=g(X);f(Z,U)=g(U);").closes(0), 0);
        CHECK.due("one is a part of the other", Check.with("f(X)=X;f(Z)=g(Z);").closes(0), 0);
    }

    /** "-4 when a side's reducing is refused": one's or both's, though they be the same. */
    private static void refused() {
        CHECK.due("side 0", Check.with("a=l;a=b;l=l;").closes(0), -4);
        CHECK.due("side 1", Check.with("a=b;a=l;l=l;").closes(0), -4);
        CHECK.due("both", Check.with("a=l;a=l;l=l;").closes(0), -4);
        CHECK.due("none", Check.with("a=b;a=b;l=l;").closes(0), 1);
        TermRules x = Check.with("a=l;a=b;c=b;c=b;d=b;d=e;l=l;");
        int[] due = {-4, 1, 0, -1};
        for (int k = 0; k < 4; k++) {
            CHECK.due("closes(" + k + ")", x.closes(k), due[k]);
        }
        CHECK.due("closes(0) once more", x.closes(0), -4);
    }

    /** "1 when there is an order and all meetings .. close, 0 when there is one and some meeting is open, or refused; NONE when there is no order." */
    private static void sure() {
        CHECK.due("no meeting", Check.with("a=b;").isSure(), 1);
        CHECK.due("all close", Check.with("a=b;a=b;c=b;c=b;").isSure(), 1);
        CHECK.due("the first is open", Check.with("a=b;a=d;c=b;c=b;").isSure(), 0);
        CHECK.due("the last is open", Check.with("a=b;a=b;c=b;c=d;").isSure(), 0);
        CHECK.due("no order, no meeting", Check.with("a=a;").isSure(), -1);
        CHECK.due("no order, all close", Check.with("a=b;a=b;c=c;").isSure(), -1);
        CHECK.due("no order, one is open", Check.with("a=b;a=c;c=c;").isSure(), -1);
        // With an order no term has steps without end, but it can have too many nodes.
        String grow = "g(X)=h(" + "X,".repeat(9) + "X);";
        CHECK.due("111 nodes", Check.with("a=g(g(b));a=g(g(b));" + grow).isSure(), 1);
        CHECK.due("refused", Check.with("a=g(g(g(b)));a=g(g(g(b)));" + grow).isSure(), 0);
        CHECK.due("refused: closes(0)", Check.with("a=g(g(g(b)));a=g(g(g(b)));" + grow).closes(0), -4);
        CHECK.due("one closes, the next is refused", Check.with("a=b;a=b;c=b;c=g(g(g(b)));" + grow).isSure(), 0);
        TermRules x = Check.with("a=b;a=d;");
        CHECK.due("isSure()", x.isSure(), 0);
        CHECK.due("isSure() once more", x.isSure(), 0);
        Check.rules(x, "a=b;a=b;");
        CHECK.due("isSure() of other rules", x.isSure(), 1);
        Check.rules(x, "a=b;b=a;");
        CHECK.due("isSure() without an order", x.isSure(), -1);
    }
}
