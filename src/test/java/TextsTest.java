/** Promises 1 to 5: a new object, feed, load, play, errorPosition. */
public final class TextsTest {
    private static final int NONE = PairRules.NONE;

    private TextsTest() {
    }

    private static void promise1NewObject() {
        PairRules rules = new PairRules();
        Checks.due("1: errorPosition", rules.errorPosition(), NONE);
        Checks.due("1: reportByte ahead of a report", rules.reportByte(0), NONE);
        Checks.due("1: the buffer", rules.feed(0, 0, 0, 0, 0), 0);
        Checks.due("1: rows", Checks.rows(rules), "a");
        Checks.due("1: text", Checks.text(rules), "a");
        Checks.due("1: accounts", Checks.accounts(rules), "0 0 0 0 0 0 0 0 0");
        int[] sizes = {1, 1, 0, 1, 2, 0, 1, 0, 0, 1, 0, 0};
        for (int i = 0; i < sizes.length; i++) {
            Checks.due("1: size " + i, rules.size(i), sizes[i]);
        }
        Checks.nothingThere("1: undo", rules::undo);
        Checks.nothingThere("1: restore 0", () -> rules.restore(0));
        Checks.nothingThere("1: restore 1", () -> rules.restore(1));
        Checks.due("1: gaps", rules.gap() + rules.rulesGap(), 0);
    }

    private static void promise2Feed() {
        PairRules rules = new PairRules();
        Checks.due("2: zeros are left out", rules.feed(0x73007400, 0x61, 0x00720000, 0x74200000, 0x62), 7);
        Checks.due("2: the bytes' order", rules.load(), 1);
        Checks.due("2: the bytes' order", Checks.text(rules), "b");
        Checks.due("2: emptied by load", rules.feed(0, 0, 0, 0, 0), 0);
        Checks.due("2: bytes of 128 and more", rules.feed(-1, 0x80808080, 0x00ff0000, 0, 0x80), 10);
        Checks.due("2: a buffer with invalid bytes", rules.load(), -11);
        Checks.feed(rules, "start a" + Checks.times(" ", 588));
        Checks.due("2: 595 bytes", rules.feed(0, 0, 0, 0, 0), 595);
        Checks.due("2: one more than there may be", rules.feed(0x20202020, 0, 0x00200000, 0, 0x20), NONE);
        Checks.due("2: nothing was appended", rules.feed(0, 0, 0, 0, 0), 595);
        Checks.due("2: too many, the second one", rules.feed(0x20202020, 0x20200000, 0, 0, 0), NONE);
        Checks.due("2: too many, the third one", rules.feed(0, 0x20202020, 0x20002000, 0, 0), NONE);
        Checks.due("2: too many, the fourth one", rules.feed(0, 0, 0x20202020, 0x202020, 0), NONE);
        Checks.due("2: too many, the fifth one", rules.feed(0, 0, 0, 0x20202020, 0x2020), NONE);
        Checks.due("2: too many, all of them", rules.feed(-1, -1, -1, -1, -1), NONE);
        Checks.due("2: nothing was appended", rules.feed(0, 0, 0, 0, 0), 595);
        Checks.due("2: the zeros do not count", rules.feed(0x20000000, 0x20, 0x2000, 0x200000, 0x62), 600);
        Checks.due("2: full", rules.feed(0, 0, 0, 0, 0x20), NONE);
        Checks.due("2: full still", rules.feed(0, 0, 0, 0, 0), 600);
        Checks.due("2: the whole buffer is read", rules.load(), 2);
        Checks.due("2: the whole buffer is read", Checks.text(rules), "ab");
        Checks.feed(rules, Checks.times(" ", 599));
        Checks.due("2: bytes whose bits lie close", rules.feed(0x81000000, 0, 0, 0, 0), 600);
    }

    private static void loadError(String setup, int code, int position) {
        PairRules rules = Checks.loaded("rule ab;start (0)(0)c;least 3;tie 2;inline 0");
        rules.append(3);
        rules.save(1);
        String before = Checks.rows(rules) + Checks.accounts(rules);
        Checks.due("3: load of " + setup, Checks.load(rules, setup), -10 - code);
        Checks.due("3: position in " + setup, rules.errorPosition(), position);
        Checks.due("3: the buffer behind " + setup, rules.feed(0, 0, 0, 0, 0), 0);
        Checks.due("3: rows behind " + setup, Checks.rows(rules) + Checks.accounts(rules), before);
        Checks.due("3: numbers", rules.size(4) * 100 + rules.size(5) * 10 + rules.size(6), 320);
        Checks.due("3: undo behind " + setup, rules.undo(), 0);
        Checks.due("3: what was saved behind " + setup, rules.restore(1), 6);
    }

    private static void loadGood(String setup, int letters, String rows) {
        PairRules rules = new PairRules();
        rules.append(1);
        rules.cut(1);
        Checks.due("3: load of " + setup, Checks.load(rules, setup), letters);
        Checks.due("3: rows of " + setup, Checks.rows(rules), rows);
        Checks.due("3: accounts", Checks.accounts(rules), "0 0 0 0 0 0 0 0 0");
        Checks.due("3: no error", rules.errorPosition(), NONE);
        Checks.due("3: gaps", rules.gap() * 1000 + rules.rulesGap(), 0);
    }

    private static void promise3Load() {
        loadGood("start abc", 3, "abc");
        loadGood("start a b\nc", 3, "abc");
        loadGood(" \nstart\na ", 1, "a");
        loadGood("rule ab;start (0)", 2, "(0) 0=ab");
        loadGood("rule ab;rule (0)c;start(1)(0)d", 6, "(1)(0)d 0=ab 1=(0)c");
        loadGood("rule ab;rule ab;start a", 1, "a 0=ab 1=ab");
        loadGood("rule a b;start ( 000000 )(0)x", 5, "(0)(0)x 0=ab");
        loadGood("start rule", 4, "rule");
        loadGood("start start least tie inline rule", 23, "startleasttieinlinerule");
        loadGood("rule rule start;start start", 5, "start 0=rulestart");
        loadGood("rule tie;start least(0);least 3", 8, "least(0) 0=tie");
        loadGood("start step", 4, "step");
        loadGood("start " + Checks.times("a", 400), 400, Checks.times("a", 400));
        loadGood("rule ab;start " + Checks.times("a", 398) + "(0)", 400, Checks.times("a", 398) + "(0) 0=ab");
        String forty = Checks.times("rule ab;", 40);
        PairRules rules = Checks.loaded(forty + "start a");
        Checks.due("3: forty rules", rules.size(2), 40);
        Checks.due("3: forty rules, none inlined", rules.isRule(39) ? 1 : 0, 1);
        rules = Checks.loaded("rule ab;start(0)c;inline0;least9;tie2");
        Checks.due("3: tokens that touch", rules.size(4) * 100 + rules.size(5) * 10 + rules.size(6), 920);
        rules = Checks.loaded("start a;inline 0;least 000009;tie 2");
        Checks.due("3: numbers told", rules.size(4) * 100 + rules.size(5) * 10 + rules.size(6), 920);
        Checks.due("3: numbers not told", Checks.load(rules, "start a"), 1);
        Checks.due("3: numbers not told", rules.size(4) * 100 + rules.size(5) * 10 + rules.size(6), 201);
        rules = Checks.loaded("start abab");
        rules.report();
        rules.save(0);
        rules.save(1);
        rules.step(1);
        Checks.load(rules, "start cc");
        Checks.due("3: what could be undone", rules.size(11), 0);
        PairRules behind = rules;
        Checks.nothingThere("3: undo", behind::undo);
        Checks.nothingThere("3: restore 0", () -> behind.restore(0));
        Checks.nothingThere("3: restore 1", () -> behind.restore(1));
        Checks.due("3: the latest report stays", rules.reportByte(1), 'b');
        rules = Checks.loaded("rule cd;start ababx(0)");
        Checks.due("3: what was tried", rules.inlinable() * 10 + rules.stepsLeft(), 11);
        Checks.due("3: leaves nothing in the next rows", Checks.load(rules, "start abab"), 4);
        Checks.due("3: leaves nothing in the next rows", Checks.rows(rules), "abab");
        Checks.due("3: leaves nothing in the accounts", Checks.accounts(rules), "0 0 0 0 0 0 0 0 0");
        Checks.due("3: leaves nothing in the gaps", rules.gap() * 1000 + rules.rulesGap(), 0);
    }

    private static void promise3LoadErrors() {
        loadError("", 1, 0);
        loadError(" \n ", 1, 3);
        loadError("start", 1, 5);
        loadError("start ", 1, 6);
        loadError("start ;", 1, 6);
        loadError("start a;", 1, 8);
        loadError("start a; ", 1, 9);
        loadError("start a;;", 1, 8);
        loadError("Start a", 1, 0);
        loadError("abc", 1, 0);
        loadError("xtart a", 1, 0);
        loadError("starx a", 1, 0);
        loadError("starts a", 1, 0);
        loadError("xule ab;start a", 1, 0);
        loadError("5", 1, 0);
        loadError("(0)", 1, 0);
        loadError("start a#", 1, 7);
        loadError("start a\u00e9", 1, 7);
        loadError("start a\tb", 1, 7);
        loadError("start A", 1, 6);
        loadError("start `", 1, 6);
        loadError("start {", 1, 6);
        loadError("start 5", 1, 6);
        loadError("start a5", 1, 7);
        loadError("start )", 1, 6);
        loadError("start (", 1, 7);
        loadError("start ()", 1, 7);
        loadError("start (a)", 1, 7);
        loadError("start (0)", 4, 7);
        loadError("start (39)", 4, 7);
        loadError("start (40)", 2, 7);
        loadError("start (0000000)", 2, 7);
        loadError("start (1234567", 2, 7);
        loadError("rule ab;start (0", 1, 16);
        loadError("rule ab;start (0;", 1, 16);
        loadError("rule ab;start (0 0)", 1, 17);
        loadError("rule ab;start(1)", 4, 14);
        loadError("rule", 1, 4);
        loadError("rule ab", 1, 7);
        loadError("rule ab)", 1, 7);
        loadError("rule ab 5", 1, 8);
        loadError("rule ;", 1, 5);
        loadError("rule a;", 3, 6);
        loadError("rule a", 1, 6);
        loadError("rule a)", 1, 6);
        loadError("rule ab;rule(0) ;start a", 3, 16);
        loadError("rule(0)b;start a", 4, 5);
        loadError("rule ab;", 1, 8);
        loadError("rule ab;foo", 1, 8);
        loadError("rule ab;;", 1, 8);
        loadError("start a;mode 1", 1, 8);
        loadError("start a;rule ab", 1, 8);
        loadError("start a;least", 1, 13);
        loadError("start a;least a", 1, 14);
        loadError("start a;least 1", 2, 14);
        loadError("start a;least 10", 2, 14);
        loadError("start a;least 0000003", 2, 14);
        loadError("start a;least 2 3", 1, 16);
        loadError("start a;tie 3", 2, 12);
        loadError("start a;inline 2", 2, 15);
        loadError("start a;least 2;tie 0;least 3", 3, 22);
        loadError("start a;tie 2;tie", 3, 14);
        loadError("start a;inline 1;inline 1", 3, 17);
        loadError("start a;tie 9;tie 1", 2, 12);
        String forty = Checks.times("rule ab;", 40);
        loadError(forty + "rule ab;start a", 5, 320);
        loadError(forty + "rule", 5, 320);
        loadError(forty + "foo", 1, 320);
        loadError("start " + Checks.times("a", 401), 5, 6);
        loadError("start " + Checks.times("a", 400) + " b", 5, 407);
        loadError("start " + Checks.times("a", 400) + " b#", 5, 407);
        loadError("rule ab;start " + Checks.times("a", 399) + "(0)", 5, 413);
        loadError("rule " + Checks.times("a", 401) + ";start a", 5, 5);
        String hundred = "rule " + Checks.times("a", 100) + ";";
        loadError(hundred + "start(0)(0)(0)(0)(0)", 5, 123);
        loadError(hundred + "rule(0)(0)(0)(0)b;start a", 5, 122);
        loadError(hundred + "rule(0)(0)(0);rule(1)(0);start a(2)", 5, 106 + 14 + 11 + 7);
        loadError(hundred + "start(0)(0)(0)(0)(1)", 4, 124);
        loadError(hundred + "start(0)(0)(0)(0)(99)", 2, 124);
        promise3ItemsBeyondARow(hundred);
    }

    /** What is wrong at the bracket of an item is ahead of what is wrong behind its RULE. */
    private static void promise3ItemsBeyondARow(String hundred) {
        String full = hundred + "start(0)(0)(0)(0)";
        loadError(full + "(0", 5, 123);
        loadError(full + "(0;", 5, 123);
        loadError(full + " (0 0)", 5, 124);
        loadError(full + "(0a)", 5, 123);
        loadError(full + "(0#", 5, 123);
        loadError(full + "(", 1, 124);
        loadError(full + "()", 1, 124);
        loadError(full + "(0000000", 2, 124);
        loadError(hundred + "start(0)(0)(0)(0", 1, 122);
        loadError(hundred + "start(0)(0)(0)a(0", 5, 121);
        loadError(hundred + "rule(0)(0)(0)(0)(0", 5, 122);
        String many = "start " + Checks.times("a", 400);
        loadError("rule ab;" + many + "(0", 5, 414);
        loadError("rule ab;start " + Checks.times("a", 399) + "(0", 5, 413);
        loadError("rule ab;start " + Checks.times("a", 398) + "(0", 1, 414);
        loadError(many + "(0)", 5, 406);
        loadError("start " + Checks.times("a", 399) + "(0)", 4, 406);
        loadError(many + "(40)", 2, 407);
        loadError(many + "(a)", 1, 407);
    }

    private static void scriptError(String script, int code, int position) {
        PairRules rules = Checks.loaded("start abab");
        rules.append(2);
        rules.save(0);
        Checks.due("4: play of " + script, Checks.play(rules, script), -10 - code);
        Checks.due("4: position in " + script, rules.errorPosition(), position);
        Checks.due("4: the buffer behind " + script, rules.feed(0, 0, 0, 0, 0), 0);
        Checks.due("4: rows behind " + script, Checks.rows(rules), "ababc");
        Checks.due("4: changes behind " + script, rules.size(11), 1);
        Checks.due("4: accounts behind " + script, Checks.accounts(rules), "0 0 0 0 0 0 1 0 0");
    }

    private static void promise4PlayErrors() {
        scriptError("step", 1, 4);
        scriptError("append b;step 1", 1, 15);
        scriptError("append b;step 1 ", 1, 16);
        scriptError("step 1 step 2;", 1, 7);
        scriptError("step 0;", 2, 5);
        scriptError("step 51;", 2, 5);
        scriptError("step 0000001;", 2, 5);
        scriptError("step a;", 1, 5);
        scriptError("step;", 1, 4);
        scriptError("inlined 1;", 1, 8);
        scriptError("inline;", 1, 0);
        scriptError("rule ab;", 1, 0);
        scriptError("make a;", 4, 5);
        scriptError("make abc;", 4, 5);
        scriptError("make step;", 4, 5);
        scriptError("make 12;", 1, 5);
        scriptError("make ;", 1, 5);
        scriptError("make a b;", 4, 5);
        scriptError("make ab c;", 1, 8);
        scriptError("expand 40;", 2, 7);
        scriptError("expand a;", 1, 7);
        scriptError("expand (0);", 1, 7);
        scriptError("append 1;", 1, 7);
        scriptError("append ;", 1, 7);
        scriptError("append a b;", 1, 9);
        scriptError("cut 0;", 2, 4);
        scriptError("cut 401;", 2, 4);
        scriptError("least 1;", 2, 6);
        scriptError("least 10;", 2, 6);
        scriptError("tie 3;", 2, 4);
        scriptError("mode 2;", 2, 5);
        scriptError("again 21();", 2, 6);
        scriptError("again ();", 1, 6);
        scriptError("again 2;", 1, 7);
        scriptError("again 2 step 1;", 1, 8);
        scriptError("xtep 1;", 1, 0);
        scriptError("steps 1;", 1, 0);
        scriptError("again 2(", 1, 8);
        scriptError("again 2()", 1, 9);
        scriptError("again 2(step 1);", 1, 14);
        scriptError("again 2(step 1;;);", 1, 15);
        scriptError("again 2(append b;", 1, 17);
        scriptError(")", 1, 0);
        scriptError("step 1;)", 1, 7);
        scriptError(";", 1, 0);
        scriptError("7", 1, 0);
        scriptError("foo;", 1, 0);
        scriptError("append b;#", 1, 9);
        scriptError("append b\r;", 1, 8);
        scriptError("again 1(again 1(again 1();););", 5, 23);
        scriptError("again 1(again 1(again 1", 1, 23);
        scriptError("again 1(again 1(again 21(", 2, 22);
        String thirty = Checks.times("inlined;", 30);
        scriptError(thirty + "step 1;", 5, 240);
        scriptError(thirty + "step", 5, 240);
        scriptError(thirty + "foo", 1, 240);
        scriptError("again 1(" + thirty + ");", 5, 240);
        scriptError("again 1();" + Checks.times("again 0();", 30), 5, 300);
    }

    private static void playGood(String setup, String script, int done, String rows, String accounts) {
        PairRules rules = Checks.loaded(setup);
        String before = Checks.rows(rules);
        Checks.due("4: play of " + script, Checks.play(rules, script), done);
        Checks.due("4: rows behind " + script, Checks.rows(rules), rows);
        Checks.due("4: accounts behind " + script, Checks.accounts(rules), accounts);
        Checks.due("4: the buffer", rules.feed(0, 0, 0, 0, 0), 0);
        Checks.due("4: errorPosition", rules.errorPosition(), NONE);
        Checks.due("4: gaps", rules.gap() * 1000 + rules.rulesGap(), 0);
        Checks.due("4: one change, undone", rules.undo(), 0);
        Checks.due("4: rows undone", Checks.rows(rules), before);
        Checks.due("4: accounts undone", Checks.accounts(rules), "0 0 0 0 0 0 0 0 0");
    }

    private static void promise4Play() {
        playGood("start a", "", 0, "a", "0 0 0 0 0 0 0 0 0");
        playGood("start a", " \n ", 0, "a", "0 0 0 0 0 0 0 0 0");
        playGood("start abab", "step 1;", 1, "(0)(0) 0=ab", "1 1 0 0 0 2 0 0 0");
        playGood("start abab", "step 50;inlined;", 2, "(0)(0) 0=ab", "1 1 0 0 0 2 0 0 0");
        playGood("start abab", "step5;append c;cut1;append\nd ;", 4, "(0)(0)d 0=ab", "1 1 0 0 0 2 2 1 0");
        playGood("rule ab;start (0)c", "inlined;", 1, "abc", "0 0 1 0 0 0 0 0 0");
        playGood("start abc", "make ab;make bc;append b;", 1, "(0)c 0=ab", "0 1 0 0 0 1 0 0 0");
        playGood("rule ab;start (0)(0)", "expand 0;expand 0;append c;", 1, "abab", "0 0 0 0 1 0 0 0 0");
        playGood("start a", "append step;", 1, "astep", "0 0 0 0 0 0 4 0 0");
        playGood("rule abc;start d(0)", "cut 1;cut 003;cut 1;append e;", 1, "dab 0=abc", "0 0 0 0 0 0 0 1 1");
        playGood("start abab", "mode 0;tie 1;least 3;step 9;least 2;step 9;", 6, "(0)(0) 0=ab", "1 1 0 0 0 2 0 0 0");
        playGood("start a", "again 2(again 3(append b;);append c;);", 8, "abbbcbbbc", "0 0 0 0 0 0 8 0 0");
        playGood("start a", "again 0(append b;);append c;again 1();", 1, "ac", "0 0 0 0 0 0 1 0 0");
        playGood("start a", "again 1(again 0(append b;);again 2(append c;););", 2, "acc", "0 0 0 0 0 0 2 0 0");
        playGood("start a", "again 20(append b;append c;append d;);append z;", 40,
            "a" + Checks.times("bcd", 13) + "b", "0 0 0 0 0 0 40 0 0");
        playGood("start a", "again 20(again 20(append b;););append z;", 40,
            "a" + Checks.times("b", 40), "0 0 0 0 0 0 40 0 0");
        playGood("start a", "again 20(append b;cut 1;expand 0;);append z;", 2, "a", "0 0 0 0 0 0 1 1 0");
        String near = Checks.times("a", 398);
        playGood("start " + near, "append bcd;append e;", 0, near + "bc", "0 0 0 0 0 0 2 0 0");
        playGood("start " + near, "append bc;cut 1;append e;append f;", 3, near + "be", "0 0 0 0 0 0 3 1 0");
        playGood("start a", Checks.times("inlined;", 30), 30, "a", "0 0 0 0 0 0 0 0 0");
        playGood("start a", "again 1(" + Checks.times("append b;", 29) + ");", 29,
            "a" + Checks.times("b", 29), "0 0 0 0 0 0 29 0 0");
        PairRules full = Checks.loaded(Checks.times("rule cd;", 40) + "start abab");
        Checks.due("4: a make without a free number", Checks.play(full, "append e;make ab;append f;"), 1);
        Checks.due("4: the last number of a rule", Checks.play(full, "expand 39;make ab;expand 39;"), 3);
        PairRules again = Checks.loaded("start a");
        for (int i = 0; i < 4; i++) {
            Checks.due("4: each script by itself", Checks.play(again, Checks.times("inlined;", 20)), 20);
            Checks.due("4: each script by itself", Checks.play(again, "again 1(again 1(append b;x"), -11);
            Checks.due("4: each script by itself", Checks.play(again, "again 2(append c;);append d;"), 3);
        }
        Checks.due("4: each script by itself", Checks.rows(again), "accdccdccdccd");
        PairRules rules = Checks.loaded("start a");
        Checks.play(rules, "least 9;tie 2;mode 0;");
        Checks.due("4: numbers", rules.size(4) * 100 + rules.size(5) * 10 + rules.size(6), 920);
        Checks.due("4: recorded as one", rules.size(11), 1);
        Checks.play(rules, "");
        Checks.due("4: recorded, though nothing is different", rules.size(11), 2);
        rules.undo();
        rules.undo();
        Checks.due("4: numbers undone", rules.size(4) * 100 + rules.size(5) * 10 + rules.size(6), 201);
    }

    private static void promise5ErrorPosition() {
        PairRules rules = new PairRules();
        Checks.due("5: at first", rules.errorPosition(), NONE);
        Checks.load(rules, "start a;x");
        Checks.due("5: behind load", rules.errorPosition(), 8);
        rules.append(1);
        rules.undo();
        rules.save(0);
        rules.restore(0);
        rules.report();
        Checks.due("5: other calls leave it", rules.errorPosition(), 8);
        Checks.play(rules, "step 1;x");
        Checks.due("5: behind play", rules.errorPosition(), 7);
        Checks.play(rules, "step 1;");
        Checks.due("5: behind a good play", rules.errorPosition(), NONE);
        Checks.load(rules, "x");
        Checks.due("5: behind load", rules.errorPosition(), 0);
        Checks.load(rules, "start a");
        Checks.due("5: behind a good load", rules.errorPosition(), NONE);
    }

    public static void main(String[] args) {
        promise1NewObject();
        promise2Feed();
        promise3Load();
        promise3LoadErrors();
        promise4PlayErrors();
        promise4Play();
        promise5ErrorPosition();
        Checks.end();
    }
}
