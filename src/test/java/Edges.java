/** What the tests of edges share. They stay under the 512 calls that an object is used for. */
final class Edges {
    static final int NONE = PairRules.NONE;
    /** Forty rules of a pair that is nowhere else. */
    static final String FORTY = Checks.times("rule yz;", 40);
    /** A rule 0 of 100 letters. */
    static final String HUNDRED = "rule " + Checks.times("a", 100) + ";";

    private Edges() {
    }

    /** The rows as a report writes them, but read by calls that leave the latest report alone. */
    static String rows(PairRules rules) {
        StringBuilder text = new StringBuilder();
        int symbols = rules.size(1);
        for (int i = 0; i < symbols; i++) {
            text.append(sign(rules.startAt(i)));
        }
        int left = rules.size(2);
        for (int rule = 0; rule < 40 && left > 0; rule++) {
            if (rules.isRule(rule)) {
                text.append(' ').append(rule).append('=').append(body(rules, rule));
                left--;
            }
        }
        return text.toString();
    }

    private static String body(PairRules rules, int rule) {
        StringBuilder text = new StringBuilder();
        int symbols = rules.rule(rule, 0);
        for (int i = 0; i < symbols; i++) {
            text.append(sign(rules.bodyAt(rule, i)));
        }
        return text.toString();
    }

    private static String sign(int symbol) {
        return symbol < 26 ? "" + (char) ('a' + symbol) : "(" + (symbol - 26) + ")";
    }

    static int numbers(PairRules rules) {
        return rules.size(4) * 100 + rules.size(5) * 10 + rules.size(6);
    }

    /** All that undoing restores, and how many changes can be undone; of long rows only their SIZE. */
    static String all(PairRules rules) {
        int total = rules.size(3);
        return (total > 40 ? total + " of " + rules.size(1) : rows(rules)) + "|" + numbers(rules) + "|" + Checks.accounts(rules) + "|" + rules.digest() + "|" + rules.size(0)
            + "|" + (rules.gap() * 1000 + rules.rulesGap()) + "|" + rules.size(11);
    }

    static PairRules loads(String setup, int letters, String rows) {
        PairRules rules = new PairRules();
        Checks.due("load of " + setup, Checks.load(rules, setup), letters);
        Checks.due("rows of " + setup, rows(rules), rows);
        Checks.due("no error position", rules.errorPosition(), NONE);
        return rules;
    }

    /** A load whose rows are too long to be told: only what it answers is looked at. */
    static PairRules fits(String setup, int letters) {
        PairRules rules = new PairRules();
        Checks.due("load of " + setup, Checks.load(rules, setup), letters);
        Checks.due("no error position", rules.errorPosition(), NONE);
        return rules;
    }

    static PairRules loadFails(String setup, int code, int at) {
        PairRules rules = new PairRules();
        Checks.due("load of " + setup, Checks.load(rules, setup), -10 - code);
        Checks.due("error position in " + setup, rules.errorPosition(), at);
        return rules;
    }

    static PairRules plays(String setup, String script, int done, String rows) {
        PairRules rules = Checks.loaded(setup);
        Checks.due("play of " + script, Checks.play(rules, script), done);
        Checks.due("rows behind " + script, rows(rules), rows);
        Checks.due("no error position", rules.errorPosition(), NONE);
        return rules;
    }

    static PairRules playFails(String script, int code, int at) {
        PairRules rules = new PairRules();
        Checks.due("play of " + script, Checks.play(rules, script), -10 - code);
        Checks.due("error position in " + script, rules.errorPosition(), at);
        return rules;
    }

    /** A call that returns an error code: it changes nothing and is not recorded. */
    static void refused(String what, PairRules rules, Checks.Call call, int code) {
        String before = all(rules);
        Checks.due(what, call.answer(), code);
        Checks.due(what + " changes nothing", all(rules), before);
    }

    /** Forty rules, each of the one ahead of it and a letter. */
    static String chain(String statements) {
        StringBuilder setup = new StringBuilder("rule ab;");
        for (int i = 1; i < 40; i++) {
            setup.append("rule(").append(i - 1).append(")c;");
        }
        return setup.append("start(39)").append(statements).toString();
    }

    /** 199 letters without a pair that comes twice. */
    static String unlikePairs() {
        StringBuilder row = new StringBuilder();
        for (int leap : new int[] {1, 3, 5, 7, 9, 11, 15, 17}) {
            for (int i = 0; i < 26 && row.length() < 199; i++) {
                row.append((char) ('a' + i * leap % 26));
            }
        }
        return row.toString();
    }

    /** Each step but the first one makes the only rule longer by a letter, as the longest pair is chosen. */
    static String twice() {
        return "start " + unlikePairs() + unlikePairs() + ";tie 2";
    }

    interface Parameter {
        long answer(int parameter);
    }

    /** Numbers out of a range: next to it, and those whose sum or product with others wraps around. */
    static int[] beyond(int low, int high) {
        return new int[] {low - 1, high + 1, low - 256, high + 256, Integer.MIN_VALUE, Integer.MIN_VALUE + 26, Integer.MAX_VALUE};
    }

    /** IllegalArgumentException of a number out of its range, none of its least and its greatest one. */
    static void outside(String what, int low, int high, Parameter call) {
        for (int given : beyond(low, high)) {
            Checks.badArgument(what + " " + given, () -> call.answer(given));
        }
        for (int given : new int[] {low, high}) {
            String got = "answers";
            try {
                call.answer(given);
            } catch (IllegalArgumentException e) {
                got = "throws";
            }
            Checks.due(what + " " + given, got, "answers");
        }
    }
}
