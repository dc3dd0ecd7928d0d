/** What the tests have in common: texts for the tape, and a count of answers that were not due. */
final class Check {
    private final String test;
    private int asked = 0;
    private int wrong = 0;

    Check(String test) {
        this.test = test;
    }

    void due(String call, long got, long want) {
        asked++;
        if (got != want) {
            wrong++;
            System.out.println(test + ": " + call + " answered " + got + ", due is " + want);
        }
    }

    void due(String call, String got, String want) {
        asked++;
        if (!want.equals(got)) {
            wrong++;
            System.out.println(test + ": " + call + " gave '" + got + "', due is '" + want + "'");
        }
    }

    /** What rules() of a text, and then place(), must answer on an object that had other rules. */
    void rulesDue(String text, int answer, int place) {
        TermRules x = with("q=r;");
        due("rules of '" + text + "'", rules(x, text), answer);
        due("place() after '" + text + "'", x.place(), place);
    }

    /** What reduce() of a text, and then place(), must answer by these rules. */
    void termDue(String rules, String text, int answer, int place) {
        TermRules x = with(rules);
        due("reduce '" + text + "' by " + rules, reduce(x, text), answer);
        due("place() after '" + text + "'", x.place(), place);
    }

    /** What same() of a text, and then place(), must answer by these rules. */
    void pairDue(String rules, String text, int answer, int place) {
        TermRules x = with(rules);
        due("same '" + text + "' by " + rules, same(x, text), answer);
        due("place() after '" + text + "'", x.place(), place);
    }

    /** Ends the program with 1 when an answer was not the one that was due, or none was asked for. */
    void finish() {
        System.out.println(test + ": " + asked + " answers, " + wrong + " wrong");
        if (wrong > 0 || asked == 0) {
            System.exit(1);
        }
    }

    /** Feeds a text, with blanks to the next twenty bytes: how many bytes the text has. */
    static int feed(TermRules x, String text) {
        for (int from = 0; from < text.length(); from += 20) {
            int fed = x.feed(four(text, from), four(text, from + 4), four(text, from + 8),
                    four(text, from + 12), four(text, from + 16));
            if (fed == TermRules.NONE) {
                throw new IllegalArgumentException("too long for the tape: " + text);
            }
        }
        return text.length();
    }

    static int four(String text, int from) {
        int four = 0;
        for (int k = from; k < from + 4; k++) {
            four = four << 8 | (k < text.length() ? text.charAt(k) & 255 : 32);
        }
        return four;
    }

    static int rules(TermRules x, String text) {
        return x.rules(feed(x, text));
    }

    static int reduce(TermRules x, String text) {
        return x.reduce(feed(x, text));
    }

    static int same(TermRules x, String text) {
        return x.same(feed(x, text));
    }

    /** A new object with these rules, which must be good ones. */
    static TermRules with(String text) {
        TermRules x = new TermRules();
        if (rules(x, text) < 0) {
            throw new IllegalArgumentException("not taken: " + text);
        }
        return x;
    }

    /** All that was written last. */
    static String written(TermRules x) {
        StringBuilder all = new StringBuilder();
        for (int i = 0; x.written(i) != TermRules.NONE; i++) {
            all.append((char) x.written(i));
        }
        return all.toString();
    }

    static String result(TermRules x) {
        int length = x.result();
        return length < 0 ? String.valueOf(length) : lengthSeen(length, written(x));
    }

    static String side(TermRules x, int k, int side, boolean reduced) {
        int length = x.write(k, side, reduced);
        return length < 0 ? String.valueOf(length) : lengthSeen(length, written(x));
    }

    private static String lengthSeen(int length, String text) {
        return length == text.length() ? text : text + " (but answered " + length + ")";
    }

    /** The answers of all calls that tell something and change nothing. */
    static String seen(TermRules x) {
        StringBuilder all = new StringBuilder("place " + x.place() + ", symbols " + x.symbols() + ", parts");
        for (int k = 0; k < 7; k++) {
            all.append(' ').append(x.parts(k));
        }
        all.append(", order");
        for (int k = 0; k < 7; k++) {
            all.append(' ').append(x.order(k));
        }
        all.append(", sure ").append(x.isSure()).append(", meetings");
        for (int k = 0; k < x.meetings(); k++) {
            all.append(' ').append(x.meeting(k, 0)).append('/').append(x.meeting(k, 1)).append('/');
            all.append(x.meeting(k, 2)).append('/').append(x.closes(k));
        }
        return all.append(", written ").append(written(x)).toString();
    }

    static String repeat(String text, int times) {
        return text.repeat(times);
    }

    /** The symbol f round a term, so many times. */
    static String nest(String f, int times, String inside) {
        return (f + "(").repeat(times) + inside + ")".repeat(times);
    }
}
