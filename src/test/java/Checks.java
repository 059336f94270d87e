/** What the tests share: they compare answers, note those that are not due, and tell at the end. */
final class Checks {
    private static int wrong = 0;
    private static int made = 0;
    private static String heading = "";

    private Checks() {
    }

    interface Call {
        long answer();
    }

    /** Says what the checks that follow belong to. */
    static void under(String text) {
        heading = text;
    }

    private static void tellWrong(String text) {
        wrong++;
        System.out.println((heading.isEmpty() ? "" : heading + ": ") + text);
    }

    static void due(String what, long got, long want) {
        made++;
        if (got != want) {
            tellWrong(what + " answered " + got + ", due is " + want);
        }
    }

    static void due(String what, String got, String want) {
        made++;
        if (!got.equals(want)) {
            tellWrong(what + " answered " + got + ", due is " + want);
        }
    }

    /** The call must throw an exception of exactly this class. */
    static void throwing(String what, Class<? extends RuntimeException> want, Call call) {
        made++;
        String got;
        try {
            got = "answered " + call.answer();
        } catch (RuntimeException e) {
            if (e.getClass() == want) {
                return;
            }
            got = "threw " + e;
        }
        tellWrong(what + " " + got + ", due is " + want.getName());
    }

    static void badArgument(String what, Call call) {
        throwing(what, IllegalArgumentException.class, call);
    }

    static void badIndex(String what, Call call) {
        throwing(what, IndexOutOfBoundsException.class, call);
    }

    static void nothingThere(String what, Call call) {
        throwing(what, java.util.NoSuchElementException.class, call);
    }

    /** Feeds a text, its characters as bytes; returns what the last feed answered. */
    static int feed(PairRules rules, String text) {
        int answer = rules.feed(0, 0, 0, 0, 0);
        int[] words = new int[5];
        for (int from = 0; from < text.length(); from += 20) {
            for (int i = 0; i < 5; i++) {
                words[i] = 0;
                for (int j = from + 4 * i; j < from + 4 * i + 4; j++) {
                    words[i] = words[i] << 8 | (j < text.length() ? text.charAt(j) & 255 : 0);
                }
            }
            answer = rules.feed(words[0], words[1], words[2], words[3], words[4]);
        }
        return answer;
    }

    /** Makes a new object with the rows of a setup. */
    static PairRules loaded(String setup) {
        PairRules rules = new PairRules();
        feed(rules, setup);
        int answer = rules.load();
        if (answer < 0) {
            throw new IllegalStateException("the test's setup has an error: " + answer + " " + setup);
        }
        return rules;
    }

    static int load(PairRules rules, String setup) {
        feed(rules, setup);
        return rules.load();
    }

    static int play(PairRules rules, String script) {
        feed(rules, script);
        return rules.play();
    }

    /** The rows as a report writes them. */
    static String rows(PairRules rules) {
        int many = rules.report();
        StringBuilder text = new StringBuilder();
        for (int i = 0; i < many; i++) {
            text.append((char) rules.reportByte(i));
        }
        return text.toString();
    }

    static String text(PairRules rules) {
        StringBuilder text = new StringBuilder();
        for (int i = 0; i < rules.size(0); i++) {
            text.append((char) ('a' + rules.letterAt(i)));
        }
        return text.toString();
    }

    static String accounts(PairRules rules) {
        StringBuilder text = new StringBuilder();
        for (int i = 0; i < 9; i++) {
            text.append(i == 0 ? "" : " ").append(rules.account(i));
        }
        return text.toString();
    }

    static String times(String part, int times) {
        return part.repeat(times);
    }

    /** Ends the test: with exit code 1 if an answer was wrong. */
    static void end() {
        System.out.println(made + " checks, " + wrong + " wrong");
        System.exit(wrong == 0 && made > 0 ? 0 : 1);
    }
}
