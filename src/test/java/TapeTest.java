/** Promises 1 and 2: a new object, feed. */
public final class TapeTest {
    private static final Check CHECK = new Check("TapeTest");

    public static void main(String[] args) {
        newObject();
        countsBytes();
        highestByteFirst();
        fullTape();
        emptiedTape();
        CHECK.finish();
    }

    private static void newObject() {
        TermRules x = new TermRules();
        CHECK.due("NONE", TermRules.NONE, -1);
        CHECK.due("place()", x.place(), -1);
        CHECK.due("symbols()", x.symbols(), 0);
        CHECK.due("parts(0)", x.parts(0), -1);
        CHECK.due("order(0)", x.order(0), -1);
        CHECK.due("meetings()", x.meetings(), 0);
        CHECK.due("meeting(0, 0)", x.meeting(0, 0), -1);
        CHECK.due("closes(0)", x.closes(0), -1);
        CHECK.due("isSure() without rules", x.isSure(), 1);
        CHECK.due("write(0, 0, false)", x.write(0, 0, false), -1);
        CHECK.due("result()", x.result(), -1);
        CHECK.due("written(0)", x.written(0), -1);
        CHECK.due("rules(1) of an empty tape", x.rules(1), -1);
        CHECK.due("reduce(1) of an empty tape", x.reduce(1), -1);
        CHECK.due("same(1) of an empty tape", x.same(1), -1);
        CHECK.due("rules(0)", x.rules(0), 0);
        CHECK.due("reduce of a variable without rules", Check.reduce(x, "X"), 0);
        CHECK.due("reduce of a symbol without rules", Check.reduce(x, "a"), -3);
    }

    private static void countsBytes() {
        TermRules x = new TermRules();
        CHECK.due("first feed", x.feed(0, 0, 0, 0, 0), 20);
        CHECK.due("second feed", x.feed(-1, -1, -1, -1, -1), 40);
        CHECK.due("rules(41)", x.rules(41), -1);
        CHECK.due("rules(40)", x.rules(40), -2);
        CHECK.due("third feed", x.feed(0, 0, 0, 0, 0), 20);
    }

    private static void highestByteFirst() {
        TermRules x = new TermRules();
        x.feed(0x41626364, 0x65666768, 0x696a6b20, 0x20202020, 0x20202020);
        CHECK.due("reduce(11)", x.reduce(11), 0);
        CHECK.due("result()", Check.result(x), "Abcdefghijk");
        x.feed(0x20202020, 0x20202020, 0x20202020, 0x20202020, 0x20202042);
        x.feed(0x43202020, 0x20202020, 0x20202020, 0x20202020, 0x20202020);
        CHECK.due("a name over two feeds", x.reduce(40), 0);
        CHECK.due("result()", Check.result(x), "BC");
        x.feed(0x58e92020, 0x20202020, 0x20202020, 0x20202020, 0x20202020);
        CHECK.due("a byte above 127", x.reduce(20), -2);
        CHECK.due("its place", x.place(), 1);
    }

    private static void fullTape() {
        TermRules x = new TermRules();
        for (int k = 1; k <= 200; k++) {
            CHECK.due("feed " + k, x.feed(0x20202020, 0x20202020, 0x20202020, 0x20202020, 0x20202058), 20 * k);
        }
        CHECK.due("feed 201", x.feed(1, 1, 1, 1, 1), -1);
        CHECK.due("feed 202", x.feed(1, 1, 1, 1, 1), -1);
        CHECK.due("rules(4001)", x.rules(4001), -1);
        CHECK.due("reduce(4000)", x.reduce(4000), -2);
        CHECK.due("place of the second X", x.place(), 39);
        CHECK.due("feed after it", x.feed(0, 0, 0, 0, 0), 20);
    }

    private static void emptiedTape() {
        TermRules x = new TermRules();
        Check.feed(x, "X                   X                   ");
        CHECK.due("reduce(1)", x.reduce(1), 0);
        CHECK.due("the rest is gone", x.reduce(1), -1);
        Check.feed(x, "?");
        CHECK.due("a fault", x.reduce(1), -2);
        CHECK.due("the tape is empty all the same", x.same(1), -1);
        Check.feed(x, "b");
        CHECK.due("something wrong", x.reduce(1), -3);
        CHECK.due("the tape is empty all the same", x.rules(1), -1);
        Check.feed(x, "X");
        CHECK.due("a call that answers NONE", x.reduce(21), -1);
        CHECK.due("leaves the tape", x.reduce(20), 0);
    }
}
