/** The edges that the document names under 'Setups and scripts' and 'Error codes': a test for each sentence. */
public final class EdgesOfTextsTest {
    private static final int NONE = Edges.NONE;
    private static final String FORTY = Edges.FORTY;
    private static final String HUNDRED = Edges.HUNDRED;
    private static final String PART = "Setups and scripts";

    private EdgesOfTextsTest() {
    }

    // ---- Setups and scripts

    private static void buffer() {
        Doc.says(PART, "Texts come from a buffer of bytes.");
        Edges.loadFails("", 1, 0);
        Edges.plays("start a", "", 0, "a");
        PairRules rules = new PairRules();
        Checks.feed(rules, "sta");
        Checks.feed(rules, "rt b");
        Checks.feed(rules, "c;tie");
        Checks.feed(rules, " 2");
        Checks.due("a text of several feeds", rules.load() * 10 + rules.size(5), 22);
        String full = "start a" + Checks.times(" ", 592) + "b";
        Checks.due("its length", full.length(), 600);
        Edges.fits(full, 2);
        Edges.loadFails(full.substring(0, 599) + "#", 1, 599);
        Edges.loadFails(Checks.times("\n", 600), 1, 600);
        Edges.plays("start a", Checks.times(" ", 590) + "append bc;", 1, "abc");
        Edges.playFails(Checks.times(" ", 591) + "append bc", 1, 600);
    }

    private static void tokens() {
        Doc.says(PART, "Tokens: a word is a maximal run of the letters a to z; a number is a maximal run of digits (leading zeros are"
            + " allowed; a number of more than 6 digits is out of any range); each of ; ( ) is a token.");
        Edges.loads("start az;least2;tie1", 2, "az");
        Edges.loadFails("starta", 1, 0);
        Edges.loadFails("star ta", 1, 0);
        Edges.loads("rule ab;rule xy;start(1)(0)z", 5, "(1)(0)z 0=ab 1=xy");
        Edges.loadFails("rule ab;start (0 0)", 1, 17);
        Edges.loads("rule ab;start (0)(00)(000000)", 6, "(0)(0)(0) 0=ab");
        Edges.loadFails("rule ab;start (0000000)", 2, 15);
        Edges.loadFails("start a;least 1000002", 2, 14);
        Checks.due("six digits", Edges.numbers(Checks.loaded("start a;least 000009;tie 000002;inline 000000")), 920);
        Edges.loadFails("start a;least 0000009", 2, 14);
        Edges.loadFails("start a;tie 0000000", 2, 12);
        Edges.loadFails("start a;inline 0000001", 2, 15);
        Edges.loadFails("start a;inline 4294967297", 2, 15);
        Edges.loadFails("start a;inline 18446744073709551617", 2, 15);
        Edges.plays("start abc", "cut 000001;", 1, "ab");
        Edges.playFails("cut 0000001;", 2, 4);
        Edges.playFails("again 0000000();", 2, 6);
        Edges.playFails("expand 0000000;", 2, 7);
        Edges.playFails("step 4294967297;", 2, 5);
        Edges.plays("start a", "again2(append b;)\n;", 2, "abb");
        Edges.playFails("append b;;", 1, 9);
    }

    private static void separators() {
        Doc.says(PART, "The bytes 32 and 10 separate tokens and are otherwise ignored.");
        Edges.loads(" \n start \n\n a  b\nc ; least\n3 ; tie 1 \n ", 3, "abc");
        Edges.loads("\n\nrule\nab\n;\nstart\n(\n0\n)\n", 2, "(0) 0=ab");
        Edges.plays("start a", " again \n 2 ( append\nb ; ) \n ; ", 2, "abb");
        Edges.playFails("in lined;", 1, 0);
        Edges.playFails("cut 1 1;", 1, 6);
        Edges.playFails("append b c;", 1, 9);
    }

    private static void everyOtherByte() {
        Doc.says(PART, "Every other byte is an invalid token.");
        for (int one = 1; one < 256; one++) {
            boolean letter = one >= 'a' && one <= 'z';
            boolean separates = one == 32 || one == 10;
            PairRules rules = new PairRules();
            if (letter || separates) {
                Checks.due("load with the byte " + one, Checks.load(rules, "start a" + (char) one), letter ? 2 : 1);
                Checks.due("no error with the byte " + one, rules.errorPosition(), NONE);
            } else {
                Checks.due("load with the byte " + one, Checks.load(rules, "start a" + (char) one), -11);
                Checks.due("where, with the byte " + one, rules.errorPosition(), one == ';' || one == '(' ? 8 : 7);
            }
            Checks.due("play with the byte " + one, Checks.play(rules, "inlined" + (char) one + ";"), separates ? 1 : -11);
            Checks.due("where, with the byte " + one, rules.errorPosition(), separates ? NONE : one == ';' ? 8 : letter ? 0 : 7);
        }
        Edges.loadFails("#", 1, 0);
        Edges.playFails("\t", 1, 0);
        Edges.loadFails("start a\r", 1, 7);
        Edges.loadFails("start a;least 2\u00ff", 1, 15);
    }

    private static void anyNumberOfTimes() {
        Doc.says(PART, "In the grammar, { } means any number of times.");
        Doc.says(PART, "setup = { \"rule\" item { item } \";\" } \"start\" item { item } { \";\" statement }");
        Edges.loads("start a", 1, "a");
        Edges.loads("rule ab;start a", 1, "a 0=ab");
        Edges.fits(FORTY + "start a", 1);
        Edges.loads("rule a b c;rule (0) (0);start a (1) b", 8, "a(1)b 0=abc 1=(0)(0)");
        Checks.due("three statements", Edges.numbers(Checks.loaded("start a;tie 1;inline 0;least 3")), 310);
        Edges.loadFails("rule ab;", 1, 8);
        Edges.loadFails("rule ab", 1, 7);
        Edges.loadFails("rule ;start a", 1, 5);
        Edges.loadFails("start ;tie 1", 1, 6);
        Edges.loadFails("start a;", 1, 8);
        Edges.loadFails("start a;tie 1;", 1, 14);
        Edges.loadFails("start a;start b", 1, 8);
        Edges.loadFails("start a;rule ab", 1, 8);
        Edges.loadFails("start a;tie", 1, 11);
        String[] wrongWords = {"xtart a", "sxart a", "starx a", "star a", "starts a", "xule ab;start a", "rulx ab;start a"};
        for (String wrong : wrongWords) {
            Edges.loadFails(wrong, 1, 0);
        }
        Doc.says(PART, "item = LETTERS | \"(\" RULE \")\"");
        Edges.loadFails("start 0", 1, 6);
        Edges.loadFails("start (a)", 1, 7);
        Edges.loadFails("start ()", 1, 7);
        Edges.loadFails("rule ab;start (0(", 1, 16);
        Edges.loadFails("rule ab;start 0)", 1, 14);
        Doc.says(PART, "statement = \"least\" N | \"tie\" N | \"inline\" N");
        Edges.loadFails("start a;mode 1", 1, 8);
        Edges.loadFails("start a;step 1", 1, 8);
        Edges.loadFails("start a;tie a", 1, 12);
        for (String word : new String[] {"xeast", "leasx", "lest", "xie", "ties", "xnline", "inlinx", "inlined"}) {
            Edges.loadFails("start a;" + word + " 2", 1, 8);
        }
        PairRules again = new PairRules();
        for (int i = 0; i < 3; i++) {
            Checks.due("each setup by itself", Checks.load(again, "start a;least 3;tie 1;inline 0"), 1);
            Checks.due("each setup by itself", Edges.numbers(again), 310);
            Checks.due("also behind one with an error", Checks.load(again, "rule ab;start a;tie 2;inline 1;least 9;?"), -11);
            Checks.due("each setup by itself", Checks.load(again, "start (0)"), -14);
        }
    }

    private static void scripts() {
        Doc.says(PART, "script = { order \";\" }");
        Edges.plays("start a", "", 0, "a");
        Edges.plays("start a", "append b;", 1, "ab");
        Edges.plays("start a", Checks.times("append b;", 30), 30, "a" + Checks.times("b", 30));
        Edges.playFails("append b", 1, 8);
        Edges.playFails("append b;append c", 1, 17);
        Edges.playFails(";", 1, 0);
        Edges.playFails("inlined;;", 1, 8);
        Doc.says(PART, "order = \"step\" N | \"inlined\" | \"make\" LETTERS | \"expand\" RULE | \"append\" LETTERS | \"cut\" N | \"least\" N"
            + " | \"tie\" N | \"mode\" N | \"again\" TIMES \"(\" script \")\"");
        String[] orders = {"step 1", "inlined", "make ab", "expand 0", "append c", "cut 1", "least 3", "tie 1", "mode 0", "again 1()"};
        for (String order : orders) {
            Edges.playFails(order, 1, order.length());
            Edges.playFails(order + ",", 1, order.length());
            PairRules rules = Checks.loaded("rule ab;start abab");
            Checks.due("play of " + order, Checks.play(rules, order + ";"), order.startsWith("again") ? 0 : 1);
            String word = order.replaceAll(" .*", "");
            Edges.playFails(word + "x" + order.substring(word.length()) + ";", 1, 0);
            Edges.playFails("x" + order.substring(1) + ";", 1, 0);
            Edges.playFails(word.substring(0, word.length() - 1) + "x" + order.substring(word.length()) + ";", 1, 0);
            Edges.playFails(word + ";;", 1, word.equals("inlined") ? 8 : word.length());
        }
        String[] others = {"inline 1", "rule ab", "start a", "letters", "x", "undo"};
        for (String other : others) {
            Edges.playFails(other + ";", 1, 0);
        }
        Edges.plays("start a", "again 1(again 0(););append b;", 1, "ab");
        Edges.playFails("again 1);", 1, 7);
        Edges.playFails("again 1(append b);", 1, 16);
        Edges.playFails("again 1(append b;)", 1, 18);
        Edges.playFails("again 1(append b;));", 1, 18);
        Edges.playFails("again (append b;);", 1, 6);
    }

    private static void lettersAreAnyWord() {
        Doc.says(PART, "LETTERS is any word, each letter of it a SYMBOL; in a setup the words rule, start, least, tie and inline are"
            + " LETTERS, too, where an item must stand or may stand.");
        String[] words = {"rule", "start", "least", "tie", "inline"};
        for (String word : words) {
            Edges.loads("start " + word, word.length(), word);
            Edges.loads("start a " + word, word.length() + 1, "a" + word);
            Edges.loads("rule " + word + ";start a", 1, "a 0=" + word);
            Edges.loads("rule a " + word + ";start a " + word + ";tie 1", word.length() + 1, "a" + word + " 0=a" + word);
            Edges.loads("rule ab;start (0)" + word, word.length() + 2, "(0)" + word + " 0=ab");
            Edges.loads("rule ab;rule (0)" + word + ";start a", 1, "a 0=ab 1=(0)" + word);
            Edges.plays("start a", "append " + word + ";", 1, "a" + word);
        }
        Edges.loads("start a least", 6, "aleast");
        Edges.loadFails("start a least 3", 1, 14);
        Edges.loadFails("rule ab start a", 1, 15);
        Edges.plays("start a", "append step;append again;", 2, "astepagain");
        Edges.plays("start a", "append z;", 1, "az");
        Edges.loadFails("start a;rule", 1, 8);
    }

    private static void ruleNumbers() {
        Doc.says(PART, "RULE is the number of a rule, 0 to 39: in a setup of one that was told ahead (they are numbered as they are told).");
        Edges.loads("rule ab;rule cd;start(0)(1)", 4, "(0)(1) 0=ab 1=cd");
        Edges.loadFails("rule ab;rule cd;start(2)", 4, 22);
        Edges.loadFails("rule ab;rule(1)c;start a", 4, 13);
        Edges.loadFails("start(0)", 4, 6);
        Checks.due("the last one", Edges.fits(FORTY + "start (39)", 2).startAt(0), 65);
        Edges.loadFails(FORTY + "start (40)", 2, 327);
        Edges.loadFails("start (39)", 4, 7);
        Edges.loadFails("start (40)", 2, 7);
        PairRules rules = Checks.loaded("rule ab;start (0)c");
        Checks.due("in a script of any", Checks.play(rules, "expand 39;"), 0);
        Checks.due("in a script of one that there is", Checks.play(rules, "expand 0;"), 1);
        Edges.playFails("expand 40;", 2, 7);
        PairRules full = Edges.fits(FORTY + "start (39)", 2);
        Checks.due("the last one of a script", Checks.play(full, "expand 39;"), 1);
        Checks.due("it was removed", full.isRule(39) ? 1 : 0, 0);
    }

    private static void lettersOfMake() {
        Doc.says(PART, "The LETTERS of make are exactly two.");
        Edges.playFails("make a;", 4, 5);
        Edges.plays("start ab", "make ab;", 1, "(0) 0=ab");
        Edges.playFails("make abc;", 4, 5);
        Edges.playFails("make abab;", 4, 5);
        Edges.playFails("make a b;", 4, 5);
    }

    private static void range(String before, int low, int high, String behind) {
        for (int number : new int[] {low, low + 1, high - 1, high}) {
            PairRules rules = new PairRules();
            int answer = Checks.play(rules, before + number + behind);
            Checks.due("play of " + before + number + behind + " is good", answer >= 0 ? 1 : 0, 1);
            Checks.due("no error in " + before + number + behind, rules.errorPosition(), NONE);
        }
        if (low > 0) {
            Edges.playFails(before + (low - 1) + behind, 2, before.length());
        }
        for (int number : new int[] {high + 1, high + 10, 999999}) {
            Edges.playFails(before + number + behind, 2, before.length());
        }
        Edges.playFails(before + behind, 1, before.length());
        Edges.playFails(before + "x" + behind, 1, before.length());
    }

    private static void numbers() {
        Doc.says(PART, "N: of step 1 to 50, of cut 1 to 400; TIMES 0 to 20; otherwise as LEAST, TIE, INLINE (\"mode\" being INLINE in a script).");
        range("step ", 1, 50, ";");
        range("cut ", 1, 400, ";");
        range("again ", 0, 20, "();");
        range("least ", 2, 9, ";");
        range("tie ", 0, 2, ";");
        range("mode ", 0, 1, ";");
        range("expand ", 0, 39, ";");
        PairRules rules = new PairRules();
        Checks.play(rules, "mode 0;tie 2;least 9;");
        Checks.due("the numbers are set", Edges.numbers(rules), 920);
        Checks.due("of cut the last one", Checks.play(Edges.fits("start " + Checks.times("a", 400), 400), "cut 399;cut 400;"), 1);
        PairRules many = Edges.fits(Edges.twice(), 398);
        Checks.due("of step the last one", Checks.play(many, "step 50;") * 1000 + many.account(0), 1050);
        Edges.plays("start a", "again 0(append b;);again 20(append c;);", 20, "a" + Checks.times("c", 20));
        String[] statements = {"least", "tie", "inline"};
        int[][] ranges = {{2, 9}, {0, 2}, {0, 1}};
        for (int i = 0; i < 3; i++) {
            String before = "start a;" + statements[i] + " ";
            Checks.due("the least one", Checks.loaded(before + ranges[i][0]).size(4 + i), ranges[i][0]);
            Checks.due("the greatest one", Checks.loaded(before + ranges[i][1]).size(4 + i), ranges[i][1]);
            Edges.loadFails(before + (ranges[i][1] + 1), 2, before.length());
            if (ranges[i][0] > 0) {
                Edges.loadFails(before + (ranges[i][0] - 1), 2, before.length());
            }
        }
        Edges.loadFails("start a;least 0", 2, 14);
    }

    // ---- Error codes

    private static void firstAndSmallest() {
        Doc.says("Error codes", "The first error along the text is reported, at the first byte of its token; if several codes apply to"
            + " one token, the smallest one.");
        Edges.loadFails("start a;tie 9;tie 1;#", 2, 12);
        Edges.loadFails("rule a;rule (7)b;start", 3, 6);
        Edges.loadFails("rule ab;rule (7)b;rule c;start", 4, 14);
        Edges.loadFails("start   a;least  123;tie 5", 2, 17);
        Edges.loadFails("start a;tie 1;tie 7", 3, 14);
        Edges.playFails("make abc;#", 4, 5);
        Edges.playFails("step 0;make abc;", 2, 5);
        Edges.playFails("cut 400;cut 400;#", 1, 16);
        // the item beyond its row is wrong at its bracket, ahead of what is behind
        Edges.loadFails(HUNDRED + "start(0)(0)(0)(0)(0", 5, 123);
        Edges.loadFails(HUNDRED + "start(0)(0)(0)(0)(0#", 5, 123);
        Edges.loadFails(HUNDRED + "start(0)(0)(0)a(0;", 5, 121);
        // several codes: 1 and 2, 2 and 4, 1 and 5
        Edges.loadFails("start 1234567", 1, 6);
        Edges.loadFails("start a 99", 1, 8);
        Edges.playFails("inlined 1234567;", 1, 8);
        Edges.loadFails("start (40)", 2, 7);
        Edges.loadFails("start (0000000)", 2, 7);
        Edges.playFails(Checks.times("inlined;", 30) + "inline;", 1, 240);
        Edges.playFails(Checks.times("inlined;", 30) + "(", 1, 240);
        Edges.loadFails(FORTY + "rules", 1, 320);
        Edges.playFails("make 1234567;", 1, 5);
    }

    private static void code1() {
        Doc.says("Error codes", "1 The token is invalid or not allowed here, or the text ends too early (the position is then the length"
            + " of the text).");
        Edges.loadFails("start a%b", 1, 7);
        Edges.loadFails("a", 1, 0);
        Edges.loadFails("(", 1, 0);
        Edges.loadFails("start", 1, 5);
        Edges.loadFails("start \n", 1, 7);
        Edges.loadFails("rule", 1, 4);
        Edges.loadFails("rule ab;  ", 1, 10);
        Edges.loadFails("rule ab;start(", 1, 14);
        Edges.loadFails("rule ab;start(0", 1, 15);
        Edges.loadFails("start a;least", 1, 13);
        Edges.loadFails("start a; ", 1, 9);
        Edges.playFails("step", 1, 4);
        Edges.playFails("step 1 ", 1, 7);
        Edges.playFails("make", 1, 4);
        Edges.playFails("make ab", 1, 7);
        Edges.playFails("again", 1, 5);
        Edges.playFails("again 3", 1, 7);
        Edges.playFails("again 3(", 1, 8);
        Edges.playFails("again 3(again 3(", 1, 16);
        Edges.playFails("again 3() ", 1, 10);
        Edges.playFails(")", 1, 0);
        Edges.playFails("append b;)", 1, 9);
    }

    private static void code2() {
        Doc.says("Error codes", "2 A number that is out of its range.");
        Edges.loadFails("rule ab;start (40)", 2, 15);
        Edges.loadFails("start a;least 1", 2, 14);
        Edges.loadFails("start a;least 10", 2, 14);
        Edges.loadFails("start a;tie 3", 2, 12);
        Edges.loadFails("start a;inline 2", 2, 15);
        Edges.playFails("again 21(", 2, 6);
        Edges.playFails("expand 40", 2, 7);
    }

    private static void code3() {
        Doc.says("Error codes", "3 The word of a second \"least\", \"tie\" or \"inline\" of a setup; the semicolon behind a rule of a setup"
            + " whose BODY has one SYMBOL.");
        Edges.loadFails("start a;least 2;least 2", 3, 16);
        Edges.loadFails("start a;tie 0;tie 0", 3, 14);
        Edges.loadFails("start a;inline 1;inline 1", 3, 17);
        Edges.loadFails("start a;inline 1;tie 1;least 2;tie", 3, 31);
        Edges.loadFails("start a;least 2;tie 1;inline 0;inline", 3, 31);
        Edges.loadFails("start a;least 2;tie 1;inline 0;least;", 3, 31);
        Edges.plays("start a", "least 3;least 4;tie 1;tie 2;mode 0;mode 1;", 6, "a");
        Edges.loadFails("rule a;start a", 3, 6);
        Edges.loadFails("rule a ;start a", 3, 7);
        Edges.loadFails("rule abc;rule(0);start a", 3, 16);
        Edges.loadFails("rule a", 1, 6);
        Edges.loadFails("rule a)", 1, 6);
        Edges.loads("rule a b;start c", 1, "c 0=ab");
        Edges.loads("rule ab;rule a(0);start c;tie 1", 1, "c 0=ab 1=a(0)");
    }

    private static void code4() {
        Doc.says("Error codes", "4 The RULE of a setup that was not told ahead; the LETTERS of a make that are not exactly two.");
        Edges.loadFails("start (0)", 4, 7);
        Edges.loadFails("start ( 0)", 4, 8);
        Edges.loadFails("rule ab;start (1)", 4, 15);
        Edges.loadFails("rule ab;rule(1)a;start b", 4, 13);
        Edges.loadFails("rule(0)a;start b", 4, 5);
        Edges.loadFails("start (39)", 4, 7);
        Edges.loadFails(Checks.times("rule yz;", 39) + "start (39)", 4, 319);
        Edges.playFails("make a;", 4, 5);
        Edges.playFails("make xyz;", 4, 5);
        Edges.playFails("again 2(make a;);", 4, 13);
    }

    private static void code5OfRulesAndRows() {
        Doc.says("Error codes", "5 The word of a 41st rule of a setup; the item (a word at its first letter, a RULE at its bracket) with"
            + " which a row has more than 400 SYMBOLS or unfolds to more than 400 letters;");
        Edges.fits(FORTY + "start rule", 4);
        Edges.loadFails(FORTY + "rule", 5, 320);
        Edges.loadFails(FORTY + "\nrule ab;start a", 5, 321);
        Edges.loadFails(FORTY + "rule;", 5, 320);
        String full = "start " + Checks.times("a", 400);
        Edges.fits(full, 400);
        Edges.loadFails(full + "a", 5, 6);
        Edges.loadFails(full + " a", 5, 407);
        Edges.loadFails("start a " + Checks.times("b", 400), 5, 8);
        Edges.fits("start a " + Checks.times("b", 399), 400);
        Edges.loadFails("rule " + Checks.times("a", 401) + ";start a", 5, 5);
        Checks.due("a BODY of 400 SYMBOLS", Edges.fits("rule " + Checks.times("a", 400) + ";start a", 1).rule(0, 0), 400);
        Edges.loadFails("rule " + Checks.times("a", 400) + " b;start a", 5, 406);
        Edges.loadFails("rule ab;" + full + "(0)", 5, 414);
        Edges.loadFails("rule ab;" + full + " ( 0 )", 5, 415);
        Edges.loadFails("rule ab;start " + Checks.times("a", 399) + "(0)", 5, 413);
        Edges.fits("rule ab;start " + Checks.times("a", 398) + "(0)", 400);
        Edges.fits(HUNDRED + "start(0)(0)(0)(0)", 400);
        Edges.loadFails(HUNDRED + "start(0)(0)(0)(0)b", 5, 123);
        Edges.loadFails(HUNDRED + "start(0)(0)(0)b(0)", 5, 121);
        Checks.due("a BODY of 400 letters", Edges.fits(HUNDRED + "rule(0)(0)(0)(0);start(1)", 400).rule(1, 2), 400);
        Edges.loadFails(HUNDRED + "rule(0)(0)(0)(0)(0);start a", 5, 122);
        Edges.loadFails(HUNDRED + "rule(0)(0)(0)(0)b;start a", 5, 122);
        Edges.loadFails(HUNDRED + "rule(0)(0)(0)(0);start(1)(1)", 5, 131);
        Edges.loadFails(HUNDRED + "rule(0)(0)(0)(0);start a(1)", 5, 130);
        // each row by itself
        Edges.fits(HUNDRED + "rule(0)(0)(0)(0);rule(0)(0)(0)(0);start(0)(0)(0)(0)", 400);
    }

    private static void code5OfScripts() {
        Doc.says("Error codes", "in a script the first word of a 31st order (those in brackets and \"again\" count), and the bracket \"(\" of"
            + " an \"again\" inside 2 others.");
        String thirty = Checks.times("inlined;", 30);
        Edges.plays("start a", thirty, 30, "a");
        Edges.playFails(thirty + "inlined;", 5, 240);
        Edges.playFails(thirty + " append", 5, 241);
        Edges.playFails(thirty + "step 99;", 5, 240);
        Edges.playFails(thirty + "again 1();", 5, 240);
        String inside = "again 1(" + Checks.times("inlined;", 29) + ");";
        Edges.plays("start a", inside, 29, "a");
        Edges.playFails(inside + "inlined;", 5, inside.length());
        Edges.playFails("again 1(" + thirty + ");", 5, 240);
        Edges.plays("start a", Checks.times("again 1();", 29) + "append b;", 1, "ab");
        Edges.playFails(Checks.times("again 0();", 30) + "append b;", 5, 300);
        Edges.plays("start a", "again 20(" + Checks.times("append b;", 29) + ");", 40, "a" + Checks.times("b", 40));
        Edges.plays("start a", Checks.times("again 1(append b;);", 15), 15, "a" + Checks.times("b", 15));
        Edges.plays("start a", Checks.times("again 1(again 2();again 1(append b;););", 7) + "append c;", 8, "abbbbbbbc");
        PairRules again = Checks.loaded("start a");
        for (int i = 0; i < 3; i++) {
            Checks.due("each script by itself", Checks.play(again, Checks.times("inlined;", 20)), 20);
            Checks.due("also behind one with an error", Checks.play(again, "again 1(again 1(append b;"), -11);
            Checks.due("each script by itself", Checks.play(again, "again 1(again 1(append b;););"), 1);
            Checks.due("also behind one with too many orders", Checks.play(again, thirty + "append b;"), -15);
        }
        Edges.plays("start a", "again 1(again 1(append b;););", 1, "ab");
        Edges.playFails("again 1(again 1(again 1(append b;);););", 5, 23);
        Edges.playFails("again 0(again 0(again 0 ();););", 5, 24);
        Edges.playFails("again 1(again 1(again 1;););", 1, 23);
        Edges.playFails("again 1(again 1(again 1", 1, 23);
        Edges.plays("start a", "again 1(again 1(append b;);again 1(append c;););again 1(again 1(append d;););", 3, "abcd");
        Edges.playFails("again 1(again 1();again 1(again 1();););", 5, 33);
    }

    public static void main(String[] args) {
        buffer();
        tokens();
        separators();
        everyOtherByte();
        anyNumberOfTimes();
        scripts();
        lettersAreAnyWord();
        ruleNumbers();
        lettersOfMake();
        numbers();
        firstAndSmallest();
        code1();
        code2();
        code3();
        code4();
        code5OfRulesAndRows();
        code5OfScripts();
        Doc.end();
    }
}
