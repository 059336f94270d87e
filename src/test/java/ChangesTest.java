/** Promises 29 to 35: the changes. */
public final class ChangesTest {
    private static final String FORTY = Checks.times("rule yz;", 40);

    private ChangesTest() {
    }

    /** Rows and accounts behind a change that was made on the rows of a setup. */
    private static void behind(String what, PairRules rules, String rows, String accounts) {
        Checks.due(what + ": rows", Checks.rows(rules), rows);
        Checks.due(what + ": accounts", Checks.accounts(rules), accounts);
        Checks.due(what + ": gaps", rules.gap() * 1000 + rules.rulesGap(), 0);
    }

    private static void refused(String what, PairRules rules, Checks.Call call, int code) {
        String before = Checks.rows(rules) + Checks.accounts(rules);
        int changes = rules.size(11);
        Checks.due(what, call.answer(), code);
        Checks.due(what + " changes nothing", Checks.rows(rules) + Checks.accounts(rules), before);
        Checks.due(what + " is not recorded", rules.size(11), changes);
    }

    private static void step(String setup, int steps, int due, String rows, String accounts) {
        PairRules rules = Checks.loaded(setup);
        String before = Checks.rows(rules);
        String what = "29: step " + steps + " of " + setup;
        Checks.due(what, rules.step(steps), due);
        behind(what, rules, rows, accounts);
        Checks.due(what + " is one change", rules.undo(), 0);
        behind(what + " undone", rules, before, "0 0 0 0 0 0 0 0 0");
    }

    private static void promise29Step() {
        step("start a", 50, 0, "a", "0 0 0 0 0 0 0 0 0");
        step("start abab", 1, 1, "(0)(0) 0=ab", "1 1 0 0 0 2 0 0 0");
        step("start aaaaa", 3, 1, "(0)(0)a 0=aa", "1 1 0 0 0 2 0 0 0");
        step("start abcabcabc", 1, 1, "(0)c(0)c(0)c 0=ab", "1 1 0 0 0 3 0 0 0");
        // the rule of ab is used but once behind the second step
        step("start abcabcabc", 2, 2, "(1)(1)(1) 1=abc", "2 2 1 0 0 6 0 0 0");
        step("start abcabcabc;inline 0", 2, 2, "(1)(1)(1) 0=ab 1=(0)c", "2 2 0 0 0 6 0 0 0");
        step("start abcabcabc;least 4", 9, 0, "abcabcabc", "0 0 0 0 0 0 0 0 0");
        step("start cdcdabab;tie 1", 1, 1, "(0)(0)abab 0=cd", "1 1 0 0 0 2 0 0 0");
        step("start cdcdabab", 50, 2, "(1)(1)(0)(0) 0=ab 1=cd", "2 2 0 0 0 4 0 0 0");
        // rules that were inlinable stay as long as no step is made
        step("rule ab;start c(0)", 5, 0, "c(0) 0=ab", "0 0 0 0 0 0 0 0 0");
        step("rule ab;start c(0)dede", 5, 1, "cab(1)(1) 1=de", "1 1 1 0 0 2 0 0 0");
        step("rule ab;rule fg;start c(0)dede", 5, 1, "cab(2)(2) 2=de", "1 1 1 1 0 2 0 0 0");
        // a step of a KEPT makes no rule, and may leave it used but once
        step("rule ab;start abc(0)", 1, 1, "(0)c(0) 0=ab", "1 0 0 0 0 1 0 0 0");
        step("rule ab;start cab", 1, 1, "cab", "1 0 1 0 0 1 0 0 0");
        step("rule ab;start ab;inline 0", 9, 1, "(0) 0=ab", "1 0 0 0 0 1 0 0 0");
        step("rule ab;rule ab;start (1)(1)(0)(0)cab;least 9", 1, 1, "(1)(1)(0)(0)c(0) 0=ab 1=ab", "1 0 0 0 0 1 0 0 0");
        step("rule abxab;start y(0)(0)z", 1, 1, "y(0)(0)z 0=(1)x(1) 1=ab", "1 1 0 0 0 2 0 0 0");
        step("rule abab;start c(0)(0)", 1, 1, "c(0)(0) 0=(1)(1) 1=ab", "1 1 0 0 0 2 0 0 0");
        step(FORTY + "start abab;inline 0", 5, 0, "abab" + forty(), "0 0 0 0 0 0 0 0 0");
        step(FORTY + "start abyzyzb;inline 0", 5, 1, "ab(0)(0)b" + forty(), "1 0 0 0 0 2 0 0 0");
        PairRules rules = Checks.loaded("start abcabcabc");
        rules.step(50);
        rules.append(23);
        rules.append(23);
        rules.append(23);
        rules.append(23);
        Checks.due("29: the lowest free number", rules.step(1), 1);
        behind("29: the lowest free number", rules, "(1)(1)(1)(0)(0) 0=xx 1=abc", "3 3 1 0 0 8 4 0 0");
        Checks.due("29: a step without effect is recorded", rules.step(1) * 10 + rules.size(11), 7);
        Checks.badArgument("29: step 0", () -> rules.step(0));
        Checks.badArgument("29: step -1", () -> rules.step(-1));
        Checks.badArgument("29: step 51", () -> rules.step(51));
        Checks.due("29: a call that throws is not recorded", rules.size(11), 7);
    }

    private static String forty() {
        StringBuilder rows = new StringBuilder();
        for (int i = 0; i < 40; i++) {
            rows.append(' ').append(i).append("=yz");
        }
        return rows.toString();
    }

    private static void inline(String setup, int due, String rows, String accounts) {
        PairRules rules = Checks.loaded(setup);
        String before = Checks.rows(rules);
        Checks.due("30: inline of " + setup, rules.inline(), due);
        behind("30: inline of " + setup, rules, rows, accounts);
        Checks.due("30: recorded", rules.undo(), 0);
        behind("30: undone", rules, before, "0 0 0 0 0 0 0 0 0");
    }

    private static void promise30Inline() {
        inline("start a", 0, "a", "0 0 0 0 0 0 0 0 0");
        inline("rule ab;start (0)(0)", 0, "(0)(0) 0=ab", "0 0 0 0 0 0 0 0 0");
        inline("rule ab;start c(0)d;inline 0", 1, "cabd", "0 0 1 0 0 0 0 0 0");
        inline("rule ab;start c;inline 1", 1, "c", "0 0 0 1 0 0 0 0 0");
        // the lowest one first: its only USE is in a rule that is removed then
        inline("rule ab;rule(0)c;start d", 2, "d", "0 0 1 1 0 0 0 0 0");
        inline("rule ab;rule(0)(0)c;start d", 2, "d", "0 0 0 2 0 0 0 0 0");
        inline("rule ab;rule(0)(0)c;start (1)(0)", 1, "(0)(0)c(0) 0=ab", "0 0 1 0 0 0 0 0 0");
        inline("rule ab;rule c(0);rule d(1);start (2)(2)", 2, "(2)(2) 2=dcab", "0 0 2 0 0 0 0 0 0");
        inline("rule ab;rule(0)c;rule(0)d;start (1)(1)", 2, "(1)(1) 1=abc", "0 0 1 1 0 0 0 0 0");
        inline("rule ab;rule(0)(0);rule(1)(0);start e(2)", 2, "e(0)(0)(0) 0=ab", "0 0 2 0 0 0 0 0 0");
    }

    private static void make(String setup, int a, int b, int due, String rows, String accounts) {
        PairRules rules = Checks.loaded(setup);
        String before = Checks.rows(rules);
        Checks.due("31: make of " + setup, rules.make(a, b), due);
        behind("31: make of " + setup, rules, rows, accounts);
        Checks.due("31: recorded", rules.undo(), 0);
        behind("31: undone", rules, before, "0 0 0 0 0 0 0 0 0");
    }

    private static void promise31Make() {
        make("start ab", 0, 1, 0, "(0) 0=ab", "0 1 0 0 0 1 0 0 0");
        make("start aaa", 0, 0, 0, "(0)a 0=aa", "0 1 0 0 0 1 0 0 0");
        make("start cdcdcdab;least 9", 0, 1, 0, "cdcdcd(0) 0=ab", "0 1 0 0 0 1 0 0 0");
        make("rule cd;start ab(0)", 0, 1, 1, "(1)(0) 0=cd 1=ab", "0 1 0 0 0 1 0 0 0");
        make("rule cd;start ab(0)", 1, 26, 1, "a(1) 0=cd 1=b(0)", "0 1 0 0 0 1 0 0 0");
        make("rule cd;start e(0)(0)(0)(0)", 26, 26, 1, "e(1)(1) 0=cd 1=(0)(0)", "0 1 0 0 0 2 0 0 0");
        make("rule cd;rule ab;rule ab;start abcab", 0, 1, 1, "(1)c(1) 0=cd 1=ab 2=ab", "0 0 0 0 0 2 0 0 0");
        make("rule xaby;start ab", 0, 1, 1, "(1) 0=x(1)y 1=ab", "0 1 0 0 0 2 0 0 0");
        PairRules rules = Checks.loaded("rule cd;rule(0)(0);start ab(1)(1)");
        rules.expand(0);
        Checks.due("31: the lowest free number", rules.make(0, 1), 0);
        Checks.due("31: it is not the BEST", Checks.rows(rules), "(0)(1)(1) 0=ab 1=cdcd");
        refused("31: -7 for the first", rules, () -> rules.make(28, 0), -7);
        refused("31: -7 for the second", rules, () -> rules.make(0, 65), -7);
        refused("31: -2", rules, () -> rules.make(1, 0), -2);
        refused("31: -2 for a BODY that is the pair alone", rules, () -> rules.make(0, 1), -2);
        PairRules full = Checks.loaded(FORTY + "start abyzc");
        refused("31: -3", full, () -> full.make(0, 1), -3);
        refused("31: -2 ahead of -3", full, () -> full.make(1, 0), -2);
        Checks.due("31: a KEPT needs no free number", full.make(24, 25), 0);
        Checks.badArgument("31: make -1 0", () -> rules.make(-1, 0));
        Checks.badArgument("31: make 66 0", () -> rules.make(66, 0));
        Checks.badArgument("31: make 0 -1", () -> rules.make(0, -1));
        Checks.badArgument("31: make 0 66", () -> rules.make(0, 66));
        Checks.badArgument("31: ahead of an error code", () -> rules.make(65, 66));
    }

    private static void expand(String setup, int rule, int due, String rows) {
        PairRules rules = Checks.loaded(setup);
        String before = Checks.rows(rules);
        Checks.due("32: expand " + rule + " of " + setup, rules.expand(rule), due);
        behind("32: expand " + rule + " of " + setup, rules, rows, "0 0 0 0 1 0 0 0 0");
        Checks.due("32: recorded", rules.undo(), 0);
        behind("32: undone", rules, before, "0 0 0 0 0 0 0 0 0");
    }

    private static void promise32Expand() {
        expand("rule ab;start (0)", 0, 1, "ab");
        expand("rule ab;start c", 0, 0, "c");
        expand("rule ab;start c(0)(0)d(0)", 0, 3, "cababdab");
        expand("rule ab;rule(0)c(0);start(1)(0)", 0, 3, "(1)ab 1=abcab");
        expand("rule ab;rule(0)c(0);start(1)(0)", 1, 1, "(0)c(0)(0) 0=ab");
        expand("rule " + Checks.times("a", 100) + ";rule(0)(0)(0)(0);start(0)(0)(0)(0)", 0, 8,
            Checks.times("a", 400) + " 1=" + Checks.times("a", 400));
        PairRules rules = Checks.loaded("rule ab;start (0)(0)");
        refused("32: -4", rules, () -> rules.expand(1), -4);
        refused("32: -4 for the last number", rules, () -> rules.expand(39), -4);
        rules.expand(0);
        refused("32: -4 for one that was expanded", rules, () -> rules.expand(0), -4);
        Checks.badIndex("32: expand -1", () -> rules.expand(-1));
        Checks.badIndex("32: expand 40", () -> rules.expand(40));
    }

    private static void promise33Append() {
        PairRules rules = Checks.loaded("rule ab;start (0)(0)");
        Checks.due("33: append 0", rules.append(0), 5);
        Checks.due("33: append 1", rules.append(1), 6);
        Checks.due("33: append 25", rules.append(25), 7);
        behind("33: no steps are made", rules, "(0)(0)abz 0=ab", "0 0 0 0 0 0 3 0 0");
        Checks.due("33: undone", rules.undo(), 2);
        Checks.due("33: undone", Checks.rows(rules), "(0)(0)ab 0=ab");
        Checks.badArgument("33: append -1", () -> rules.append(-1));
        Checks.badArgument("33: append 26", () -> rules.append(26));
        PairRules single = Checks.loaded("rule ab;start c(0)");
        single.append(2);
        Checks.due("33: nothing is inlined", Checks.rows(single), "c(0)c 0=ab");
        PairRules full = Checks.loaded("rule " + Checks.times("a", 133) + ";start (0)(0)(0)");
        Checks.due("33: the last letter that there is room for", full.append(1), 400);
        refused("33: -5", full, () -> full.append(1), -5);
        Checks.badArgument("33: ahead of the error code", () -> full.append(26));
        full.cut(1);
        Checks.due("33: room again", full.append(2), 400);
    }

    private static void cut(String setup, int many, int due, String rows, int opened) {
        PairRules rules = Checks.loaded(setup);
        String before = Checks.rows(rules);
        String text = Checks.text(rules);
        Checks.due("34: cut " + many + " of " + setup, rules.cut(many), due);
        behind("34: cut " + many + " of " + setup, rules, rows, "0 0 0 0 0 0 0 " + many + " " + opened);
        Checks.due("34: the TEXT", Checks.text(rules), text.substring(0, text.length() - many));
        Checks.due("34: recorded", rules.undo(), 0);
        behind("34: undone", rules, before, "0 0 0 0 0 0 0 0 0");
    }

    private static void promise34Cut() {
        cut("start abc", 1, 2, "ab", 0);
        cut("start abc", 2, 1, "a", 0);
        cut("rule ab;start c(0)", 2, 1, "c 0=ab", 0);
        cut("rule ab;start c(0)", 1, 2, "ca 0=ab", 1);
        cut("rule abc;rule(0)d(0);start (1)(1)", 1, 5, "(1)(0)dab 0=abc 1=(0)d(0)", 2);
        cut("rule abc;rule(0)d(0);start (1)(1)", 3, 3, "(1)(0)d 0=abc 1=(0)d(0)", 1);
        cut("rule abc;rule(0)d(0);start (1)(1)", 5, 3, "(1)ab 0=abc 1=(0)d(0)", 2);
        cut("rule abc;rule(0)d(0);start (1)(1)", 7, 1, "(1) 0=abc 1=(0)d(0)", 0);
        cut("rule abc;rule(0)d(0);start (1)(1)", 13, 1, "a 0=abc 1=(0)d(0)", 2);
        cut("start " + Checks.times("a", 400), 399, 1, "a", 0);
        PairRules rules = Checks.loaded("rule ab;start c(0)");
        refused("34: -6 for all letters", rules, () -> rules.cut(3), -6);
        refused("34: -6 for more", rules, () -> rules.cut(400), -6);
        Checks.badArgument("34: cut 0", () -> rules.cut(0));
        Checks.badArgument("34: cut -1", () -> rules.cut(-1));
        Checks.badArgument("34: cut 401", () -> rules.cut(401));
    }

    private static void promise35Set() {
        PairRules rules = new PairRules();
        Checks.due("35: LEAST was", rules.set(4, 9), 2);
        Checks.due("35: LEAST was", rules.set(4, 2), 9);
        Checks.due("35: TIE was", rules.set(5, 2), 0);
        Checks.due("35: TIE was", rules.set(5, 1), 2);
        Checks.due("35: INLINE was", rules.set(6, 0), 1);
        Checks.due("35: INLINE was", rules.set(6, 0), 0);
        Checks.due("35: as set", rules.size(4) * 100 + rules.size(5) * 10 + rules.size(6), 210);
        Checks.due("35: recorded, also if nothing is different", rules.size(11), 6);
        Checks.due("35: undone", rules.undo(), 5);
        Checks.due("35: undone", rules.undo() * 1000 + rules.size(5) * 10 + rules.size(6), 4011);
        Checks.badArgument("35: set 3", () -> rules.set(3, 2));
        Checks.badArgument("35: set 7", () -> rules.set(7, 1));
        Checks.badArgument("35: set -1", () -> rules.set(-1, 1));
        Checks.badArgument("35: LEAST 1", () -> rules.set(4, 1));
        Checks.badArgument("35: LEAST 10", () -> rules.set(4, 10));
        Checks.badArgument("35: TIE -1", () -> rules.set(5, -1));
        Checks.badArgument("35: TIE 3", () -> rules.set(5, 3));
        Checks.badArgument("35: INLINE -1", () -> rules.set(6, -1));
        Checks.badArgument("35: INLINE 2", () -> rules.set(6, 2));
        Checks.due("35: a call that throws is not recorded", rules.size(11), 4);
    }

    public static void main(String[] args) {
        promise29Step();
        promise30Inline();
        promise31Make();
        promise32Expand();
        promise33Append();
        promise34Cut();
        promise35Set();
        Checks.end();
    }
}
