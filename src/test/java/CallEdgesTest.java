import java.util.List;
import java.util.function.ToIntFunction;

/** Promises 1 to 6, 8, 9, 15 and 16 at the edges: what a call takes, what it refuses, and what it leaves as it was. */
public final class CallEdgesTest {
    private static final Check CHECK = new Check("CallEdgesTest");
    private static final int BLANKS = 0x20202020;
    private static final String NOTHING = "symbols 0, parts -1 -1 -1 -1 -1 -1 -1, order -1 -1 -1 -1 -1 -1 -1, sure 1, meetings";

    /** One of the calls that take the first bytes of the tape. */
    private record Reader(String name, Call call, String good, String fault, String wrong) {
    }

    private interface Call {
        int ask(TermRules x, int n);
    }

    private static final List<Reader> READERS = List.of(
            new Reader("rules", TermRules::rules, "a=b;", "a=b", "X=a;"),
            new Reader("reduce", TermRules::reduce, "f(a)", "f(a", "f(q)"),
            new Reader("same", TermRules::same, "a=b", "a=b;", "a=q"));

    public static void main(String[] args) {
        newObject();
        fiveHundredAndTwelveCalls();
        fourThousandBytes();
        feedRefused();
        everyByteHasItsPlace();
        lengthsThatAreTaken();
        onlyTheFirstBytes();
        tapeIsEmpty();
        refusedCallsChangeNothing();
        rulesFromNowOn();
        thenThereAreNone();
        placeMetLast();
        placeCountsNoNone();
        symbolsAndParts();
        resultOfTheLatest();
        resultSinceTheLatestRules();
        writtenLast();
        CHECK.finish();
    }

    /** A state in which every call has something to tell, with "f(a)" on the tape. */
    private static TermRules busy() {
        TermRules x = Check.with("f(f(X))=g(X);f(a)=b;");
        Check.reduce(x, "f(Q)");
        x.result();
        Check.same(x, "Q=?");
        Check.feed(x, "f(a)");
        return x;
    }

    /** "No rules; an empty tape." */
    private static void newObject() {
        TermRules x = new TermRules();
        CHECK.due("a new object", Check.seen(x), "place -1, " + NOTHING + ", written ");
        CHECK.due("result()", x.result(), -1);
        CHECK.due("write(0, 0, false)", x.write(0, 0, false), -1);
        CHECK.due("write(0, 1, true)", x.write(0, 1, true), -1);
        for (Reader reader : READERS) {
            CHECK.due(reader.name + "(1)", reader.call.ask(new TermRules(), 1), -1);
        }
        CHECK.due("rules(0)", new TermRules().rules(0), 0);
        CHECK.due("reduce(0)", new TermRules().reduce(0), -2);
        CHECK.due("same(0)", new TermRules().same(0), -2);
        CHECK.due("feed", x.feed(0, 0, 0, 0, 0), 20);
    }

    /** "An object is used for at most 512 calls after it has been made". */
    private static void fiveHundredAndTwelveCalls() {
        TermRules x = new TermRules();
        int calls = 0;
        for (int round = 0; calls + 8 <= 512; round++) {
            String symbol = "s" + round % 10;
            Check.feed(x, symbol + "(X)=t;");
            CHECK.due("rules " + round, x.rules(8), 1);
            Check.feed(x, symbol + "(" + symbol + "(Q))");
            CHECK.due("reduce " + round, x.reduce(9), 2);
            CHECK.due("result " + round, x.result(), 1);
            CHECK.due("written " + round, x.written(0), 't');
            CHECK.due("order " + round, x.order(1), 1);
            CHECK.due("isSure " + round, x.isSure(), 1);
            calls += 8;
        }
        CHECK.due("calls", calls, 512);
    }

    /** "how many there are. NONE .. when there would be more than 4000." */
    private static void fourThousandBytes() {
        for (int round = 0; round < 2; round++) {
            TermRules x = new TermRules();
            for (int bytes = 20; bytes <= 4000; bytes += 20) {
                CHECK.due("feed to " + bytes, x.feed(BLANKS, BLANKS, BLANKS, BLANKS, BLANKS), bytes);
            }
            for (int more = 0; more < 3; more++) {
                CHECK.due("feed beyond 4000", x.feed(BLANKS, BLANKS, BLANKS, BLANKS, BLANKS), -1);
            }
            CHECK.due("rules(4001)", x.rules(4001), -1);
            CHECK.due("rules(4000)", x.rules(4000), 0);
            CHECK.due("feed to an empty tape", x.feed(BLANKS, BLANKS, BLANKS, BLANKS, BLANKS), 20);
        }
    }

    /** "NONE, changing nothing, when there would be more than 4000." */
    private static void feedRefused() {
        for (Reader reader : READERS) {
            TermRules x = Check.with("f(X)=X;a=b;");
            String text = " ".repeat(3999 - reader.good.length()) + reader.good;
            Check.feed(x, text);
            String before = Check.seen(x);
            CHECK.due("feed to a full tape", x.feed(0x3f3f3f3f, 0x3f3f3f3f, 0x3f3f3f3f, 0x3f3f3f3f, 0x3f3f3f3f), -1);
            CHECK.due("what can be seen", Check.seen(x), before);
            CHECK.due(reader.name + "(4001)", reader.call.ask(x, 4001), -1);
            CHECK.due(reader.name + "(4000)", reader.call.ask(x, 4000) >= 0 ? 1 : 0, 1);
            CHECK.due("place()", x.place(), -1);
        }
    }

    /** "Twenty bytes more, the highest byte of each first". */
    private static void everyByteHasItsPlace() {
        for (int at = 0; at < 40; at++) {
            String text = " ".repeat(at) + "X" + " ".repeat(39 - at);
            TermRules x = new TermRules();
            Check.feed(x, text);
            CHECK.due("reduce up to the X at " + at, x.reduce(at), -2);
            CHECK.due("its place", x.place(), at);
            Check.feed(x, text);
            CHECK.due("reduce with the X at " + at, x.reduce(at + 1), 0);
            Check.feed(x, text);
            CHECK.due("reduce all with the X at " + at, x.reduce(40), 0);
            CHECK.due("result()", Check.result(x), "X");
            Check.feed(x, text.replace('X', '\u00ff'));
            CHECK.due("a byte 255 at " + at, x.reduce(40), -2);
            CHECK.due("its place", x.place(), at);
        }
        TermRules x = new TermRules();
        x.feed(0x41424344, 0x45464748, 0x4950204c, 0x20202020, 0x20202020);
        CHECK.due("reduce(10)", x.reduce(10), 0);
        CHECK.due("the bytes as they were", Check.result(x), "ABCDEFGHIP");
    }

    /** "NONE, changing nothing, when n is not 0 .. the number of bytes"; "NONE likewise". */
    private static void lengthsThatAreTaken() {
        for (Reader reader : READERS) {
            for (int feeds = 0; feeds <= 3; feeds++) {
                int bytes = 20 * feeds;
                int[] refused = {-1, -2, -20, bytes + 1, bytes + 20, 4000, 4001, Integer.MIN_VALUE, Integer.MAX_VALUE};
                TermRules x = new TermRules();
                Check.feed(x, " ".repeat(bytes));
                for (int n : refused) {
                    CHECK.due(reader.name + "(" + n + ") of " + bytes, reader.call.ask(x, n), -1);
                }
                boolean isRules = reader.name.equals("rules");
                CHECK.due(reader.name + "(all) of " + bytes, reader.call.ask(x, bytes), isRules ? 0 : -2);
                CHECK.due("its place", x.place(), isRules ? -1 : bytes);
                Check.feed(x, " ".repeat(bytes));
                CHECK.due(reader.name + "(0) of " + bytes, reader.call.ask(x, 0), isRules ? 0 : -2);
                CHECK.due("its place", x.place(), isRules ? -1 : 0);
            }
        }
    }

    /** "The first n bytes of the tape": what comes behind them is nothing to the text. */
    private static void onlyTheFirstBytes() {
        for (Reader reader : READERS) {
            for (String behind : new String[] {"?", "a", "b", ";", ")", "(a)", "1"}) {
                TermRules x = Check.with("f(X)=X;a=b;");
                Check.feed(x, reader.good + behind);
                CHECK.due(reader.name + " before " + behind, reader.call.ask(x, reader.good.length()) >= 0 ? 1 : 0, 1);
                CHECK.due("place()", x.place(), -1);
            }
        }
        TermRules x = new TermRules();
        Check.feed(x, "Abcdefghijklmno");
        CHECK.due("twelve bytes of a longer name", x.reduce(12), 0);
        Check.feed(x, "Abcdefghijklmno");
        CHECK.due("thirteen", x.reduce(13), -2);
    }

    /** "and the tape is empty": whatever the answer, but for NONE. */
    private static void tapeIsEmpty() {
        for (Reader reader : READERS) {
            for (String text : new String[] {reader.good, reader.fault, reader.wrong, ""}) {
                isEmptied(reader, "f(X)=X;a=b;", text);
            }
        }
        isEmptied(READERS.get(1), "a=a;f(X)=X;", "f(a)");
        isEmptied(READERS.get(2), "a=a;b=b;", "a=b");
    }

    private static void isEmptied(Reader reader, String rules, String text) {
        TermRules x = Check.with(rules);
        Check.feed(x, text);
        x.feed(BLANKS, BLANKS, BLANKS, BLANKS, BLANKS);
        int n = text.length();
        CHECK.due(reader.name + " of '" + text + "'", reader.call.ask(x, n) == -1 ? 1 : 0, 0);
        for (Reader next : READERS) {
            CHECK.due(next.name + "(1) after " + reader.name + " of '" + text + "'", next.call.ask(x, 1), -1);
        }
        CHECK.due("feed after " + reader.name + " of '" + text + "'", x.feed(BLANKS, BLANKS, BLANKS, BLANKS, BLANKS), 20);
    }

    /** A call that answers NONE leaves all as it was: what can be seen, the result, the tape. */
    private static void refusedCallsChangeNothing() {
        List<ToIntFunction<TermRules>> calls = List.of(
                x -> x.rules(21), x -> x.rules(-1), x -> x.reduce(21), x -> x.reduce(-1), x -> x.same(21),
                x -> x.same(-1), x -> x.parts(3 + 1), x -> x.parts(-1), x -> x.order(4), x -> x.order(-1));
        List<ToIntFunction<TermRules>> more = List.of(
                x -> x.meeting(2, 0), x -> x.meeting(-1, 0), x -> x.meeting(0, 3), x -> x.meeting(0, -1),
                x -> x.closes(2), x -> x.closes(-1), x -> x.write(2, 0, true), x -> x.write(0, 2, false),
                x -> x.written(4), x -> x.written(-1));
        for (int k = 0; k < calls.size() + more.size(); k++) {
            TermRules x = busy();
            String before = Check.seen(x);
            ToIntFunction<TermRules> call = k < calls.size() ? calls.get(k) : more.get(k - calls.size());
            CHECK.due("refused call " + k, call.applyAsInt(x), -1);
            CHECK.due("what can be seen after call " + k, Check.seen(x), before);
            CHECK.due("result after call " + k, Check.result(x), "f(Q)");
            CHECK.due("reduce after call " + k, x.reduce(4), 1);
            CHECK.due("its result", Check.result(x), "b");
        }
        CHECK.due("what can be seen of it", Check.seen(busy()), "place 2, symbols 4, parts 1 1 0 0 -1 -1 -1, "
                + "order 0 1 2 3 -1 -1 -1, sure 0, meetings 0/0/1/0 0/1/1/0, written f(Q)");
    }

    /** "The first n bytes of the tape are the rules from now on". */
    private static void rulesFromNowOn() {
        TermRules x = busy();
        CHECK.due("the meetings of these rules", x.meetings(), 2);
        CHECK.due("rules(0)", x.rules(0), 0);
        CHECK.due("no rules", Check.seen(x), "place -1, " + NOTHING + ", written f(Q)");
        CHECK.due("other rules", Check.rules(x, "b=a;f(X)=b;"), 2);
        CHECK.due("what can be seen of them", Check.seen(x), "place -1, symbols 3, parts 0 0 1 -1 -1 -1 -1, "
                + "order 2 0 1 -1 -1 -1 -1, sure 1, meetings, written f(Q)");
        CHECK.due("reduce by them", Check.reduce(x, "f(f(a))"), 4);
        CHECK.due("rules that meet", Check.rules(x, "b=a;b=f(b);"), 2);
        CHECK.due("what can be seen of them", Check.seen(x), "place -1, symbols 3, parts 0 0 1 -1 -1 -1 -1, "
                + "order -1 -1 -1 -1 -1 -1 -1, sure -1, meetings 1/0/0/0, written f(Q)");
        CHECK.due("rules that meet elsewhere", Check.rules(x, "b=a;f(b)=a;f(a)=a;"), 3);
        CHECK.due("what can be seen of them", Check.seen(x), "place -1, symbols 3, parts 0 0 1 -1 -1 -1 -1, "
                + "order 0 1 2 -1 -1 -1 -1, sure 1, meetings 1/0/1/1, written f(Q)");
        CHECK.due("those of before once more", Check.rules(x, "b=a;f(X)=b;"), 2);
        CHECK.due("reduce by them", Check.reduce(x, "f(f(a))"), 4);
    }

    /** "-2: there is a fault, -3: something is wrong; then there are none." */
    private static void thenThereAreNone() {
        String[] bad = {"a", "a=b", "a=b;?", "X=a;", "a=b;a=X;", "a=b;".repeat(21)};
        int[] answers = {-2, -2, -2, -3, -3, -3};
        int[] places = {1, 3, 4, 0, 6, 80};
        for (int k = 0; k < bad.length; k++) {
            TermRules x = busy();
            x.reduce(4);
            CHECK.due("rules of " + bad[k], Check.rules(x, bad[k]), answers[k]);
            CHECK.due("no rules", Check.seen(x), "place " + places[k] + ", " + NOTHING + ", written f(Q)");
            CHECK.due("reduce by none", Check.reduce(x, "a"), -3);
            CHECK.due("reduce a variable", Check.reduce(x, "X"), 0);
            CHECK.due("good rules after it", Check.rules(x, "a=b;"), 1);
            CHECK.due("reduce by them", Check.reduce(x, "a"), 1);
        }
    }

    /** "The place .. that rules(), reduce() or same() met last"; "NONE when the latest of these met none". */
    private static void placeMetLast() {
        for (Reader first : READERS) {
            for (Reader then : READERS) {
                placeAfter(first, first.fault, then, then.good, -1);
                placeAfter(first, first.wrong, then, then.good, -1);
                placeAfter(first, first.good, then, then.fault, 3);
                placeAfter(first, first.fault, then, " " + then.fault, 4);
                placeAfter(first, first.fault, then, "", then.name.equals("rules") ? -1 : 0);
            }
        }
        // What is refused meets no fault, and nothing that is wrong.
        for (String bad : new String[] {"l=?", "l=q"}) {
            TermRules x = Check.with("l=l;");
            Check.same(x, bad);
            CHECK.due("place() of " + bad, x.place(), 2);
            CHECK.due("reduce l", Check.reduce(x, "l"), -4);
            CHECK.due("place() after it", x.place(), -1);
            Check.same(x, bad);
            CHECK.due("same l = l", Check.same(x, "l=l"), -4);
            CHECK.due("place() after it", x.place(), -1);
        }
    }

    private static void placeAfter(Reader first, String firstText, Reader then, String text, int place) {
        TermRules x = Check.with("f(X)=X;a=b;");
        Check.feed(x, firstText);
        first.call.ask(x, firstText.length());
        if (first.name.equals("rules")) {
            Check.rules(x, "f(X)=X;a=b;");
        }
        Check.feed(x, text);
        then.call.ask(x, text.length());
        String both = first.name + " '" + firstText + "', " + then.name + " '" + text + "'";
        CHECK.due("place() after " + both, x.place(), place);
        x.symbols();
        x.isSure();
        x.result();
        x.meetings();
        CHECK.due("place() later, after " + both, x.place(), place);
    }

    /** "a call that answered NONE counts for none". */
    private static void placeCountsNoNone() {
        for (Reader first : READERS) {
            for (Reader then : READERS) {
                TermRules x = Check.with("f(X)=X;a=b;");
                Check.feed(x, first.fault);
                first.call.ask(x, first.fault.length());
                CHECK.due("place() of " + first.name, x.place(), 3);
                CHECK.due(then.name + "(1)", then.call.ask(x, 1), -1);
                CHECK.due(then.name + "(-1)", then.call.ask(x, -1), -1);
                CHECK.due("place() after it", x.place(), 3);
                Check.feed(x, "X");
                CHECK.due("reduce of X", x.reduce(1), 0);
                CHECK.due(then.name + "(1)", then.call.ask(x, 1), -1);
                CHECK.due("place() after it", x.place(), -1);
            }
        }
    }

    /** "How many symbols the rules have." "NONE when there is none such." */
    private static void symbolsAndParts() {
        StringBuilder rules = new StringBuilder();
        for (int count = 0; count <= 6; count++) {
            TermRules x = Check.with(rules.toString());
            CHECK.due("symbols() of " + rules, x.symbols(), count);
            for (int symbol = 0; symbol < count; symbol++) {
                CHECK.due("parts(" + symbol + ") of " + rules, x.parts(symbol), symbol + 1);
            }
            int[] none = {-1, -2, count, count + 1, 6, 7, Integer.MIN_VALUE, Integer.MAX_VALUE};
            for (int symbol : none) {
                CHECK.due("parts(" + symbol + ") of " + rules, x.parts(symbol), -1);
            }
            rules.append("s").append(count).append("(").append("X,".repeat(count)).append("X)=X;");
        }
        CHECK.due("no parts", Check.with("a=a;").parts(0), 0);
        CHECK.due("39 parts", Check.with("f(" + "X,".repeat(38) + "X)=X;").parts(0), 39);
    }

    /** "Writes what the latest reduce() came to .. NONE: .. it answered -2, -3 or -4." */
    private static void resultOfTheLatest() {
        TermRules x = Check.with("a=b;l=l;f(X)=X;");
        CHECK.due("before any", x.result(), -1);
        String[] bad = {"a?", "", "q", "a(a)", "l", "f(l)"};
        for (String text : bad) {
            CHECK.due("reduce a", Check.reduce(x, "a"), 1);
            CHECK.due("its result", Check.result(x), "b");
            CHECK.due("reduce '" + text + "' is none", Check.reduce(x, text) < -1 ? 1 : 0, 1);
            CHECK.due("result() after '" + text + "'", x.result(), -1);
            CHECK.due("result() once more", x.result(), -1);
            CHECK.due("what was written last stays", Check.written(x), "b");
            CHECK.due("a refused call changes nothing", x.reduce(1), -1);
            CHECK.due("result() after it", x.result(), -1);
        }
        Check.reduce(x, "f(f(Xyz))");
        Check.same(x, "a=?");
        Check.same(x, "a=l");
        Check.same(x, "a=a");
        CHECK.due("same() is no reduce()", Check.result(x), "Xyz");
        CHECK.due("a refused call changes nothing", x.reduce(21), -1);
        CHECK.due("result() after it", Check.result(x), "Xyz");
    }

    /** "or there was none since the latest rules()". */
    private static void resultSinceTheLatestRules() {
        for (String text : new String[] {"", "a=b;", "a=b", "X=a;"}) {
            TermRules x = Check.with("a=b;");
            Check.reduce(x, "a");
            CHECK.due("result()", x.result(), 1);
            CHECK.due("a refused call changes nothing", x.rules(1), -1);
            CHECK.due("result()", x.result(), 1);
            Check.rules(x, text);
            CHECK.due("result() after rules of '" + text + "'", x.result(), -1);
            CHECK.due("what was written last stays", Check.written(x), "b");
            Check.reduce(x, "Xx");
            CHECK.due("result() after a reduce", Check.result(x), "Xx");
        }
    }

    /** "Byte i of what was written last (by one that answered a number of bytes); NONE when there is none." */
    private static void writtenLast() {
        TermRules x = Check.with("f(f(Q))=g(Q);l=l;l=a;");
        int[] far = {-1, -2, 4000, 4001, Integer.MIN_VALUE, Integer.MAX_VALUE};
        for (int bytes = 1; bytes <= 12; bytes++) {
            String name = "Abcdefghijkl".substring(0, bytes);
            Check.reduce(x, name);
            CHECK.due("reduce() writes nothing", Check.written(x), bytes == 1 ? "" : "Abcdefghijkl".substring(0, bytes - 1));
            CHECK.due("result()", x.result(), bytes);
            for (int i = 0; i < bytes; i++) {
                CHECK.due("written(" + i + ") of " + bytes, x.written(i), name.charAt(i));
            }
            CHECK.due("written(" + bytes + ") of " + bytes, x.written(bytes), -1);
            for (int i : far) {
                CHECK.due("written(" + i + ")", x.written(i), -1);
            }
        }
        CHECK.due("a shorter one", Check.side(x, 0, 1, false), "g(f(V0))");
        CHECK.due("none of the longer one's bytes", x.written(8), -1);
        CHECK.due("refused", x.write(1, 0, true), -4);
        CHECK.due("no such side", x.write(1, 2, false), -1);
        CHECK.due("no such meeting", x.write(2, 0, false), -1);
        Check.reduce(x, "l");
        CHECK.due("no result", x.result(), -1);
        CHECK.due("what was written last stays", Check.written(x), "g(f(V0))");
        Check.rules(x, "?");
        CHECK.due("whatever the rules are", Check.written(x), "g(f(V0))");
    }
}
