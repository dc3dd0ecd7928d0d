/** Section "Terms", WRITTEN, and promises 14 to 16: names of variables, the four thousand bytes, what is written last. */
public final class WriteEdgesTest {
    private static final Check CHECK = new Check("WriteEdgesTest");
    private static final String SMALL = "q(" + Check.nest("uu", 36, "zzz") + ")=zzz;";

    public static void main(String[] args) {
        withoutBlanks();
        firstInSideZero();
        thenInSideOne();
        bySidesAsTheyAre();
        manyVariables();
        byItsOwnName();
        noSuchMeetingOrSide();
        fourThousandBytesAsItIs();
        fourThousandBytesReduced();
        farTooManyBytes();
        fourThousandBytesOfAResult();
        writtenOnlyByANumberOfBytes();
        CHECK.finish();
    }

    private static void is(String rules, int k, String side0, String side1, String reduced0, String reduced1) {
        TermRules x = Check.with(rules);
        CHECK.due("side 0 of " + rules, Check.side(x, k, 0, false), side0);
        CHECK.due("side 1 of " + rules, Check.side(x, k, 1, false), side1);
        CHECK.due("side 0 reduced, of " + rules, Check.side(x, k, 0, true), reduced0);
        CHECK.due("side 1 reduced, of " + rules, Check.side(x, k, 1, true), reduced1);
        // What was asked for before is nothing to the names.
        CHECK.due("side 1 again", Check.side(x, k, 1, false), side1);
    }

    /** "WRITTEN is a term with its names, without blanks". */
    private static void withoutBlanks() {
        TermRules x = Check.with(" f ( X , g1 ( a ) )\t=\n abcdefghijkl ; g1 ( a ) = a ; ");
        CHECK.due("side 0", Check.side(x, 0, 0, false), "f(V0,a)");
        CHECK.due("side 1", Check.side(x, 0, 1, false), "abcdefghijkl");
        CHECK.due("no step", Check.reduce(x, "\r f ( Q , f ( g1 ( Q1 ) , abcdefghijkl ) ) "), 0);
        CHECK.due("its result", Check.result(x), "f(Q,f(g1(Q1),abcdefghijkl))");
        for (int bytes = 1; bytes <= 12; bytes++) {
            String name = "abcdefghijkl".substring(0, bytes);
            TermRules y = Check.with(name + "(X)=q;" + name + "(q)=" + name + "(" + name + "(q));");
            CHECK.due("side 1 with " + name, Check.side(y, 0, 1, false), name + "(" + name + "(q))");
        }
    }

    /** "V0, V1, .. by the place at which it stands first in side 0". */
    private static void firstInSideZero() {
        is("f(X,Y,a)=c;a=b;", 0, "f(V0,V1,b)", "c", "f(V0,V1,b)", "c");
        is("f(X,Y,X,Z,a)=c;a=b;", 0, "f(V0,V1,V0,V2,b)", "c", "f(V0,V1,V0,V2,b)", "c");
        is("f(Y,a,X)=g(X,Y);a=b;", 0, "f(V0,b,V1)", "g(V1,V0)", "f(V0,b,V1)", "g(V1,V0)");
        // By the place in the side, not in the front of i or of j.
        is("f(g(X,Y),X,Y)=c;g(P,Q)=h(Q,P);", 0, "f(h(V0,V1),V1,V0)", "c", "f(h(V0,V1),V1,V0)", "c");
        is("f(X,Y)=g(Y,X);f(P,Q)=h(P,Q);", 0, "g(V0,V1)", "h(V1,V0)", "g(V0,V1)", "h(V1,V0)");
    }

    /** "and then in side 1": those that are not in side 0. */
    private static void thenInSideOne() {
        is("f(X,Y)=a;f(P,Q)=h(Q,P);", 0, "a", "h(V0,V1)", "a", "h(V0,V1)");
        is("f(X,Y)=Y;f(P,Q)=h(P,Q);", 0, "V0", "h(V1,V0)", "V0", "h(V1,V0)");
        is("f(X,Y,Z)=Y;f(P,Q,R)=h(R,Q,P,R);", 0, "V0", "h(V1,V0,V2,V1)", "V0", "h(V1,V0,V2,V1)");
        is("f(g(X),Y)=h(X,Y);g(Z)=a;", 0, "f(a,V0)", "h(V1,V0)", "f(a,V0)", "h(V1,V0)");
    }

    /** "(by the sides as they are, also when a reduced one is written)". */
    private static void bySidesAsTheyAre() {
        is("f(X,Y,a)=c;a=b;f(X,Y,b)=h(Y,X);", 0, "f(V0,V1,b)", "c", "h(V1,V0)", "c");
        is("f(X,Y,a)=h(Y,X);a=b;f(X,Y,b)=Y;h(X,Y)=X;", 0, "f(V0,V1,b)", "h(V1,V0)", "V1", "V1");
        is("f(X,Y)=k(X,Y);f(P,Q)=h(Q,P);k(X,Y)=a;", 0, "k(V0,V1)", "h(V1,V0)", "a", "h(V1,V0)");
    }

    /** Numbers of one figure and of two; a meeting has up to 75 variables here. */
    private static void manyVariables() {
        for (int count = 1; count <= 38; count++) {
            StringBuilder front = new StringBuilder("f(a");
            StringBuilder due = new StringBuilder("f(b");
            StringBuilder turned = new StringBuilder("c");
            StringBuilder turnedDue = new StringBuilder("c");
            for (int k = 0; k < count; k++) {
                front.append(",X").append(k);
                due.append(",V").append(k);
                turned.insert(0, "X" + k + ",");
                turnedDue.insert(0, "V" + k + ",");
            }
            TermRules x = Check.with(front + ")=g(" + turned + ");a=b;");
            CHECK.due(count + " variables", Check.side(x, 0, 0, false), due + ")");
            CHECK.due(count + " variables turned", Check.side(x, 0, 1, false), "g(" + turnedDue + ")");
        }
        StringBuilder outside = new StringBuilder();
        StringBuilder inside = new StringBuilder();
        StringBuilder due = new StringBuilder("f(k(V0");
        for (int k = 0; k < 37; k++) {
            outside.append(",Y").append(k);
        }
        for (int k = 0; k < 38; k++) {
            inside.append(k == 0 ? "" : ",").append("Z").append(k);
            due.append(k == 0 ? "" : ",V" + k);
        }
        due.append(")");
        for (int k = 38; k < 75; k++) {
            due.append(",V").append(k);
        }
        TermRules x = Check.with("f(g(X)" + outside + ")=X;g(h(" + inside + "))=k(" + inside + ");");
        CHECK.due("75 variables", Check.side(x, 0, 0, false), due + ")");
        CHECK.due("75 variables, reduced", Check.side(x, 0, 0, true), due + ")");
    }

    /** "in what result() writes by its own name". */
    private static void byItsOwnName() {
        TermRules x = Check.with("f(X,Y)=g(Y,X,Y);f(a,X)=X;");
        for (String name : new String[] {"V7", "V0", "V", "Z", "Abcdefghijkl", "X", "A0000000000b"}) {
            CHECK.due("reduce with " + name, Check.reduce(x, "f(" + name + ",V1)"), 1);
            CHECK.due("its result", Check.result(x), "g(V1," + name + ",V1)");
            // Names of terms and of meetings are nothing to one another.
            CHECK.due("side 0", Check.side(x, 0, 0, false), "g(V0,a,V0)");
            CHECK.due("result() after it", Check.result(x), "g(V1," + name + ",V1)");
            Check.same(x, "Other=Names");
            CHECK.due("result() after same()", Check.result(x), "g(V1," + name + ",V1)");
        }
    }

    /** "NONE: no such meeting or side". */
    private static void noSuchMeetingOrSide() {
        TermRules x = Check.with("f(f(X))=g(X);f(a)=b;");
        CHECK.due("meetings()", x.meetings(), 2);
        int[] none = {-1, -2, 2, 3, 999, 1000, Integer.MIN_VALUE, Integer.MAX_VALUE};
        for (int no : none) {
            for (int reduced = 0; reduced <= 1; reduced++) {
                CHECK.due("write(" + no + ", 0, ..)", x.write(no, 0, reduced == 1), -1);
                CHECK.due("write(" + no + ", 1, ..)", x.write(no, 1, reduced == 1), -1);
                CHECK.due("write(0, " + no + ", ..)", x.write(0, no, reduced == 1), -1);
                CHECK.due("write(1, " + no + ", ..)", x.write(1, no, reduced == 1), -1);
                CHECK.due("write(" + no + ", " + no + ", ..)", x.write(no, no, reduced == 1), -1);
            }
        }
        CHECK.due("nothing was written", x.written(0), -1);
        String[] due = {"f(g(V0))", "g(f(V0))", "f(b)", "g(a)"};
        for (int k = 0; k < 4; k++) {
            CHECK.due("write(" + k / 2 + ", " + k % 2 + ", false)", Check.side(x, k / 2, k % 2, false), due[k]);
        }
    }

    /** 27 times a part of 37 nodes and 147 bytes, 26 commas, and w with two signs: 4000 bytes when w has three. */
    private static String large(String w, String behind) {
        return "q(X)=" + w + "(X" + ",X".repeat(26) + behind + ");";
    }

    /** "or more than 4000 bytes": as it is, of either side. */
    private static void fourThousandBytesAsItIs() {
        for (int bytes = 3998; bytes <= 4006; bytes++) {
            String rule = large("wwwwwwwww".substring(0, bytes - 3997), "");
            isWritten(Check.with(rule + SMALL), 0, bytes, false);
            isWritten(Check.with(SMALL + rule), 1, bytes, false);
            // It is normal and has 1000 nodes.
            isWritten(Check.with(rule + SMALL), 0, bytes, true);
            isWritten(Check.with(SMALL + rule), 1, bytes, true);
        }
    }

    private static void isWritten(TermRules x, int side, int bytes, boolean reduced) {
        CHECK.due("the other side", Check.side(x, 0, 1 - side, false), "zzz");
        CHECK.due(bytes + " bytes", x.write(0, side, reduced), bytes <= 4000 ? bytes : -1);
        if (bytes > 4000) {
            CHECK.due("what was written last stays", Check.written(x), "zzz");
            CHECK.due("the other side again", Check.side(x, 0, 1 - side, true), "zzz");
            return;
        }
        CHECK.due("the last byte", x.written(bytes - 1), ')');
        CHECK.due("none behind it", x.written(bytes), -1);
        CHECK.due("all of them", Check.written(x).length(), bytes);
    }

    /** "(as it is, or reduced)": each has its own bytes; -4 is told of one that is refused, however many it has. */
    private static void fourThousandBytesReduced() {
        TermRules x = Check.with("q(X)=w(X" + ",X".repeat(26) + ",z);q(" + Check.nest("u", 36, "z") + ")=z;");
        CHECK.due("1001 nodes as they are", x.write(0, 0, false), 27 * 109 + 26 + 5);
        CHECK.due("1001 nodes reduced", x.write(0, 0, true), -4);
        TermRules y = Check.with(large("www", ",zzz") + SMALL);
        CHECK.due("1001 nodes and 4004 bytes as they are", y.write(0, 0, false), -1);
        CHECK.due("1001 nodes reduced", y.write(0, 0, true), -4);
        // As it is it has too many bytes, reduced it has few.
        TermRules z = Check.with(large("wwww", "") + SMALL + "wwww(X" + ",X".repeat(26) + ")=zzz;");
        CHECK.due("4001 bytes as they are", z.write(0, 0, false), -1);
        CHECK.due("reduced", Check.side(z, 0, 0, true), "zzz");
        // As it is it has few, reduced it has too many, or just so many.
        for (int bytes = 3998; bytes <= 4003; bytes++) {
            String w = "wwwwww".substring(0, bytes - 3997);
            TermRules grown = Check.with("p=q(" + Check.nest("uu", 36, "zzz") + ");p=zzz;" + large(w, ""));
            CHECK.due("as it is", grown.write(0, 0, false), 150);
            CHECK.due("reduced to " + bytes, grown.write(0, 0, true), bytes <= 4000 ? bytes : -1);
            CHECK.due("what was written last", Check.written(grown).length(), bytes <= 4000 ? bytes : 150);
        }
    }

    /** More nodes than four thousand bytes can have: what is put in has 1023, and stands there 39 times. */
    private static void farTooManyBytes() {
        TermRules x = Check.with("q(X)=w(X" + ",X".repeat(38) + ");q(" + Check.nest("u", 38, "z") + ")=z;");
        CHECK.due("1522 nodes", x.write(0, 0, false), -1);
        CHECK.due("1522 nodes, reduced", x.write(0, 0, true), -4);
        CHECK.due("the other side after it", Check.side(x, 0, 1, false), "z");
        StringBuilder one = new StringBuilder();
        StringBuilder two = new StringBuilder();
        for (int k = 1; k <= 9; k++) {
            one.append(",X").append(k).append(",X").append(k);
            two.append(",h(Y").append(k - 1).append(",Y").append(k - 1).append("),Y").append(k);
        }
        TermRules y = Check.with("q(Z" + one + ")=w(X9" + ",X9".repeat(38) + ");q(W" + two + ")=W;");
        CHECK.due("1 + 39 * 1023 nodes", y.write(0, 0, false), -1);
        CHECK.due("1 + 39 * 1023 nodes, reduced", y.write(0, 0, true), -4);
        CHECK.due("nothing was written", y.written(0), -1);
        CHECK.due("the other side", Check.side(y, 0, 1, false), "V1");
        CHECK.due("closes(0)", y.closes(0), -4);
    }

    /** Promise 15, "NONE: more than 4000 bytes". */
    private static void fourThousandBytesOfAResult() {
        for (int bytes = 3998; bytes <= 4003; bytes++) {
            TermRules x = Check.with(large("wwwwww".substring(0, bytes - 3997), "") + "k(uu(zzz))=zzz;");
            CHECK.due("no step", Check.reduce(x, "Before"), 0);
            CHECK.due("result()", Check.result(x), "Before");
            CHECK.due("one step", Check.reduce(x, "q(" + Check.nest("uu", 36, "zzz") + ")"), 1);
            CHECK.due("result of " + bytes, x.result(), bytes <= 4000 ? bytes : -1);
            CHECK.due("result of " + bytes + " once more", x.result(), bytes <= 4000 ? bytes : -1);
            CHECK.due("what was written last", Check.written(x).length(), bytes <= 4000 ? bytes : 6);
            CHECK.due("written(3999)", x.written(3999), bytes == 4000 ? ')' : -1);
            CHECK.due("written(4000)", x.written(4000), -1);
            CHECK.due("same() has no such limit", Check.same(x, "q(" + Check.nest("uu", 36, "zzz") + ")=zzz"), 0);
        }
    }

    /** "what was written last (by one that answered a number of bytes)". */
    private static void writtenOnlyByANumberOfBytes() {
        TermRules x = Check.with("a=b;a=l;l=l;f(X)=X;");
        CHECK.due("nothing yet", x.written(0), -1);
        CHECK.due("refused", x.write(0, 1, true), -4);
        CHECK.due("nothing yet", x.written(0), -1);
        CHECK.due("side 0", Check.side(x, 0, 0, true), "b");
        CHECK.due("refused", x.write(0, 1, true), -4);
        CHECK.due("no such meeting", x.write(1, 0, false), -1);
        CHECK.due("no such side", x.write(0, 2, false), -1);
        CHECK.due("no result", x.result(), -1);
        CHECK.due("closes(0)", x.closes(0), -4);
        CHECK.due("isSure()", x.isSure(), -1);
        CHECK.due("same()", Check.same(x, "f(Q)=Q"), 1);
        CHECK.due("reduce()", Check.reduce(x, "f(f(Q))"), 2);
        CHECK.due("it is what it was", Check.written(x), "b");
        CHECK.due("result()", Check.result(x), "Q");
        CHECK.due("side 1 as it is", Check.side(x, 0, 1, false), "l");
        CHECK.due("result() again", Check.result(x), "Q");
    }
}
