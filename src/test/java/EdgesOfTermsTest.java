/** The edges that the document names under 'Rows', 'Pairs' and 'Texts that change': a test for each sentence. */
public final class EdgesOfTermsTest {
    private static final int NONE = Edges.NONE;
    private static final String FORTY = Edges.FORTY;

    private EdgesOfTermsTest() {
    }

    // ---- Rows

    private static void symbols() {
        Doc.says("Rows", "A SYMBOL is a letter (0 for a to 25 for z) or a rule (26 for the rule 0, 27 for the rule 1, and so on).");
        PairRules rules = Checks.loaded("rule ab;rule cd;start az(0)(1)");
        int[] due = {0, 25, 26, 27};
        for (int place = 0; place < 4; place++) {
            Checks.due("startAt " + place, rules.startAt(place), due[place]);
        }
        Checks.due("the last rule", Checks.loaded(FORTY + "start (39)").startAt(0), 65);
        Checks.due("the last rule in a BODY", Checks.loaded(Edges.chain("")).bodyAt(39, 0), 64);
    }

    private static void rulesAtATime() {
        Doc.says("Rows", "There is the START, a row of SYMBOLS, and there are at most 40 rules at a time, numbered from 0 to 39 (some"
            + " numbers may be free), each with a BODY, a row of two SYMBOLS or more.");
        PairRules rules = Checks.loaded(Checks.times("rule yz;", 39) + "start ababcdcd;inline 0");
        Checks.due("39 rules", rules.size(2), 39);
        Checks.due("the step that makes the 40th rule", rules.step(50), 1);
        Checks.due("40 rules", rules.size(2), 40);
        Checks.due("the last number", rules.isRule(39) ? 1 : 0, 1);
        Checks.due("no 41st rule by a step", rules.step(50), 0);
        Edges.refused("no 41st rule by a make", rules, () -> rules.make(2, 3), -3);
        rules.expand(5);
        Checks.due("a number in between may be free", rules.isRule(5) ? 1 : 0, 0);
        Checks.due("39 rules again", rules.size(2), 39);
        Checks.due("which is taken then", rules.make(2, 3), 5);
        Checks.due("no 41st rule by a setup", Checks.load(new PairRules(), FORTY + "rule ab;start a"), -15);
        Checks.due("a BODY of two SYMBOLS", Checks.load(new PairRules(), "rule ab;start a"), 1);
        Checks.due("no BODY of one SYMBOL", Checks.load(new PairRules(), "rule a;start a"), -13);
        Checks.due("no BODY of none", Checks.load(new PairRules(), "rule ;start a"), -11);
        PairRules short3 = Checks.loaded("rule aab;rule abab;start aa;inline 0");
        short3.make(0, 1);
        Checks.due("a make leaves two SYMBOLS in each BODY", Edges.rows(short3), "aa 0=a(2) 1=(2)(2) 2=ab");
    }

    private static void noRuleOfItself() {
        Doc.says("Rows", "No rule unfolds to itself.");
        Edges.loadFails("rule (0)a;start (0)", 4, 6);
        Edges.loadFails("rule ab;rule a(1);start (0)", 4, 15);
        Edges.loadFails("rule (1)a;rule (0)a;start (0)", 4, 6);
        // a KEPT is not put into its own BODY, nor into one that is like it
        PairRules rules = Checks.loaded("rule ab;rule ab;start ab;inline 0");
        rules.step(1);
        Checks.due("behind the step of a KEPT", Edges.rows(rules), "(0) 0=ab 1=ab");
    }

    private static void unfolding() {
        Doc.says("Rows", "To unfold a SYMBOL: a letter is itself; a rule is its BODY, each SYMBOL of it unfolded.");
        Checks.due("a letter alone", Checks.text(Checks.loaded("start z")), "z");
        Checks.due("rules in rules", Checks.text(Checks.loaded("rule ab;rule(0)c(0);start(1)d(0)(1)")), "abcabdababcab");
        Checks.due("forty rules deep", Checks.text(Checks.loaded(Edges.chain(""))), "ab" + Checks.times("c", 39));
    }

    private static void textOf1To400Letters() {
        Doc.says("Rows", "The TEXT is what START unfolds to; it has 1 to 400 letters at all times.");
        PairRules one = Checks.loaded("start ab");
        Checks.due("cut to one letter", one.cut(1), 1);
        Edges.refused("not to none", one, () -> one.cut(1), -6);
        Checks.due("one letter", one.size(0), 1);
        Edges.loadFails("start", 1, 5);
        PairRules full = Edges.fits("start " + Checks.times("a", 399), 399);
        Checks.due("the 400th letter", full.append(1), 400);
        Checks.due("no 401st letter", full.append(1), -5);
        Checks.due("400 letters", full.size(0), 400);
        Edges.fits(Edges.HUNDRED + "start(0)(0)(0)(0)", 400);
        Edges.loadFails(Edges.HUNDRED + "start(0)(0)(0)(0)a", 5, 123);
        Checks.due("401 letters of a script", Checks.play(full, "cut 1;append bc;"), 1);
        Checks.due("400 letters", full.size(0), 400);
    }

    private static void lengthOfASymbol() {
        Doc.says("Rows", "LENGTH of a SYMBOL is how many letters it unfolds to.");
        PairRules rules = Checks.loaded(Edges.HUNDRED + "rule(0)(0)(0)(0);rule yz;rule(2)x;start a");
        int[] due = {100, 400, 2, 3};
        for (int rule = 0; rule < 4; rule++) {
            Checks.due("LENGTH of the rule " + rule, rules.rule(rule, 2), due[rule]);
        }
        rules.expand(2);
        Checks.due("LENGTH behind an expand", rules.rule(3, 2), 3);
    }

    private static void usesOfARule() {
        Doc.says("Rows", "USES of a rule are how often it stands in START and in all BODIES, together.");
        PairRules rules = Checks.loaded("rule ab;rule(0)(0);rule(0)c(1);rule xy;start(0)(1)(0)");
        int[] due = {5, 2, 0, 0};
        for (int rule = 0; rule < 4; rule++) {
            Checks.due("USES of the rule " + rule, rules.rule(rule, 1), due[rule]);
        }
        rules.expand(2);
        Checks.due("USES without the BODY that is gone", rules.rule(1, 1), 1);
    }

    private static void sizeOfAll() {
        Doc.says("Rows", "SIZE is how many SYMBOLS START and all BODIES have, together.");
        Checks.due("the least SIZE", new PairRules().size(3), 1);
        Checks.due("of rules without USES too", Checks.loaded("rule ab;rule(0)cd;start (1)a").size(3), 7);
        Checks.due("of the longest rows", Checks.loaded("start " + Checks.times("a", 400)).size(3), 400);
        Checks.due("of forty rules", Checks.loaded(FORTY + "start a").size(3), 81);
    }

    private static void orderOfTheRows() {
        Doc.says("Rows", "The rows are START and then the BODIES, by the numbers of their rules.");
        PairRules rules = Checks.loaded("rule abx;rule cdx;rule aby;rule cdab;start cdz;tie 1;inline 0");
        Checks.due("START ahead of the BODIES", rules.best(0), 2);
        rules.cut(2);
        Checks.due("the BODY of the rule 0 ahead of that of the rule 1", rules.best(0), 0);
        rules.expand(0);
        Checks.due("the BODY of the rule 1 ahead of that of the rule 2", rules.best(0), 2);
        PairRules late = Checks.loaded("rule xy;rule abu;rule cdv;rule cdwab;start(1)(2);tie 1");
        late.expand(0);
        late.make(27, 28);
        late.expand(2);
        late.expand(1);
        Checks.due("its rows", Edges.rows(late), "(0) 0=abucdv 3=cdwab");
        Checks.due("a rule that was made later comes by its number", late.best(0), 0);
    }

    private static void numbersAndTheirRanges() {
        Doc.says("Rows", "LEAST is 2 to 9 (2 if it is not told), TIE 0 to 2 (0), INLINE 0 or 1 (1).");
        Checks.due("not told", Edges.numbers(Checks.loaded("start a")), 201);
        Checks.due("of a new object", Edges.numbers(new PairRules()), 201);
        Checks.due("the least ones", Edges.numbers(Checks.loaded("start a;least 2;tie 0;inline 0")), 200);
        Checks.due("the greatest ones", Edges.numbers(Checks.loaded("start a;inline 1;tie 2;least 9")), 921);
        Checks.due("only LEAST told", Edges.numbers(Checks.loaded("start a;least 5")), 501);
        Checks.due("only TIE told", Edges.numbers(Checks.loaded("start a;tie 1")), 211);
        Checks.due("only INLINE told", Edges.numbers(Checks.loaded("start a;inline 0")), 200);
        PairRules rules = Checks.loaded("start a;least 7;tie 2;inline 0");
        Checks.load(rules, "start b");
        Checks.due("not told by the next setup", Edges.numbers(rules), 201);
        int[][] ranges = {{4, 2, 9}, {5, 0, 2}, {6, 0, 1}};
        for (int[] range : ranges) {
            for (int value = -2; value < 12; value++) {
                int given = value;
                if (value >= range[1] && value <= range[2]) {
                    rules.set(range[0], value);
                    Checks.due("set " + range[0] + " " + value, rules.size(range[0]), value);
                } else {
                    Checks.badArgument("set " + range[0] + " " + value, () -> rules.set(range[0], given));
                }
            }
        }
    }

    // ---- Pairs

    private static int count(String setup, int a, int b) {
        return Checks.loaded(setup).count(a, b);
    }

    private static void twoSymbols() {
        Doc.says("Pairs", "A pair is two SYMBOLS, one behind the other.");
        PairRules one = new PairRules();
        for (int symbol = 0; symbol < 66; symbol++) {
            Checks.due("none in a row of one SYMBOL", one.count(0, symbol) + one.count(symbol, 0), 0);
        }
        PairRules rules = Checks.loaded("rule ab;start z(0)a");
        Checks.due("a letter and a rule", rules.count(25, 26), 1);
        Checks.due("a rule and a letter", rules.count(26, 0), 1);
        Checks.due("not with one between", rules.count(25, 0), 0);
        Checks.due("the order counts", rules.count(26, 25), 0);
    }

    private static void foundFromTheLeft() {
        Doc.says("Pairs", "It is found in a row from the left to the right: where it is found, one goes on behind both of its SYMBOLS.");
        int[] due = {0, 1, 1, 2, 2, 3, 3};
        for (int letters = 1; letters <= 7; letters++) {
            String row = Checks.times("a", letters);
            Checks.due("aa in " + row, count("start " + row, 0, 0), due[letters - 1]);
            Checks.due("aa in b" + row + "b", count("start b" + row + "b", 0, 0), due[letters - 1]);
        }
        Checks.due("aa in aaabaaa", count("start aaabaaa", 0, 0), 2);
        Checks.due("aa in 400 letters", count("start " + Checks.times("a", 400), 0, 0), 200);
        Checks.due("pairs that lie across others", count("start aabb", 0, 1) * 10 + count("start aabb", 1, 1), 11);
        Checks.due("aba in ababa", count("start ababa", 0, 1) * 10 + count("start ababa", 1, 0), 22);
        Checks.due("rules that are twins", count("rule ab;start(0)(0)(0)(0)(0)", 26, 26), 2);
        PairRules rules = Checks.loaded("rule baaa;start aaaaa");
        rules.make(0, 0);
        Checks.due("the left ones become one SYMBOL", Edges.rows(rules), "(1)(1)a 0=b(1)a 1=aa");
    }

    private static void bodyThatIsThePairAlone() {
        Doc.says("Pairs", "A BODY that is the pair alone (two SYMBOLS) is not looked into for it.");
        Checks.due("the only place", count("rule ab;start c", 0, 1), 0);
        Checks.due("two of them", count("rule ab;rule ab;start (0)(1)", 0, 1), 0);
        Checks.due("of twins", count("rule aa;start c", 0, 0), 0);
        Checks.due("START alone is looked into", count("rule ab;start ab", 0, 1), 1);
        Checks.due("a BODY of three SYMBOLS", count("rule abc;start c", 0, 1), 1);
        Checks.due("a BODY of the pair twice", count("rule abab;start c", 0, 1), 2);
        Checks.due("a BODY of three twins", count("rule aaa;start c", 0, 0), 1);
        Checks.due("a BODY of another pair", count("rule ab;rule(0)c;start abc", 26, 2), 0);
        PairRules rules = Checks.loaded("rule ab;rule ab;start ab");
        rules.make(0, 1);
        Checks.due("nor does it become one SYMBOL", Edges.rows(rules), "(0) 0=ab 1=ab");
        Checks.due("a COUNT of 0 is no place", Checks.loaded("rule ab;rule ab;start c").make(0, 1), -2);
    }

    private static void countInAllRows() {
        Doc.says("Pairs", "COUNT of a pair is how often it is found in all rows.");
        Checks.due("not across rows", count("rule xa;rule bxa;start bca", 0, 1), 0);
        Checks.due("in START and BODIES", count("rule abx;rule(0)ab;start cabab", 0, 1), 4);
        Checks.due("in BODIES without USES", count("rule abx;start c", 0, 1), 1);
        Checks.due("not in what rules unfold to", count("rule abx;start(0)(0)(0)", 0, 1), 1);
        Checks.due("in a row of one SYMBOL", count("start a", 0, 0), 0);
        PairRules last = Checks.loaded(Checks.times("rule yz;", 39) + "rule abab;start a");
        Checks.due("in the last rule", last.count(0, 1), 2);
    }

    private static void keptIsTheLowest() {
        Doc.says("Pairs", "KEPT of a pair is the lowest rule whose BODY is the pair alone, if there is one.");
        PairRules rules = Checks.loaded("rule xab;rule ab;rule ab;start cab");
        Checks.due("the lowest of two", rules.best(3), 1);
        rules.expand(1);
        Checks.due("then the other one", rules.best(3), 2);
        rules.expand(2);
        Checks.due("then none", rules.best(3), NONE);
        Checks.due("a BODY of more is none", Checks.loaded("rule aba;start abab").best(3), NONE);
        Checks.due("the first number", Checks.loaded(FORTY + "start yz").best(3), 0);
        Checks.due("the last number", Checks.loaded(Checks.times("rule yz;", 39) + "rule ab;start ab").best(3), 39);
        PairRules turned = Checks.loaded("rule ba;start abcab");
        Checks.due("not the other way round", turned.best(3), NONE);
    }

    private static void worthAStep() {
        Doc.says("Pairs", "A pair is WORTH a step if its COUNT is at least LEAST, or if it has a KEPT and its COUNT is at least 1;"
            + " without a KEPT there must be a free number for a rule, too.");
        for (int least = 2; least <= 9; least++) {
            String row = "start " + Checks.times("a", 2 * least);
            Checks.due("a COUNT of LEAST", Checks.loaded(row + ";least " + least).size(10), 1);
            Checks.due("a COUNT one less", Checks.loaded(row.substring(0, row.length() - 1) + ";least " + least).size(10), 0);
        }
        Checks.due("a KEPT and a COUNT of 1", Checks.loaded("rule ab;start ab;least 9").size(10), 1);
        Checks.due("a KEPT and a COUNT of 0", Checks.loaded("rule ab;start c").size(10), 0);
        Checks.due("a KEPT and a COUNT of LEAST", Checks.loaded("rule ab;start abcab").size(10), 1);
        PairRules full = Checks.loaded(FORTY + "start abab;inline 0");
        Checks.due("no KEPT, no free number", full.size(10), 0);
        full.expand(20);
        Checks.due("no KEPT, one free number", full.size(10), 1);
        Checks.due("a KEPT, no free number", Checks.loaded(FORTY + "start yz").size(10), 1);
    }

    private static void best(String setup, int... due) {
        PairRules rules = Checks.loaded(setup);
        for (int what = 0; what < due.length; what++) {
            Checks.due("best " + what + " of " + setup, rules.best(what), due[what]);
        }
    }

    private static void bestPair() {
        Doc.says("Pairs", "The BEST pair is, of those that are WORTH a step, the one with the greatest COUNT; of several by TIE 0 the one"
            + " with the least first SYMBOL, by TIE 1 the one whose first place at which it is found is first (in the row that comes"
            + " first, there furthest to the left), by TIE 2 the one with the greatest LENGTH of both SYMBOLS together; of several then"
            + " the one with the least first SYMBOL, then with the least second one.");
        best("start a", NONE, NONE);
        best("start xyabxyabxy", 23, 24, 3);
        best(FORTY + "start abababyz", 24, 25, 1);
        best("start ababababab;least 6", NONE, NONE);
        best("start zaxzaybcxbc", 1, 2, 2);
        best("start bzxbzybaxba", 1, 0, 2);
        best("rule xx;start (0)ax(0)aybcxbc", 1, 2, 2);
        best("start zaxzaybcxbc;tie 1", 25, 0, 2);
        best("rule zax;rule bczay;rule bcw;start q;tie 1", 25, 0, 2);
        best("rule zax;rule bczay;start wbc;tie 1", 1, 2, 2);
        best("rule bcx;rule bcy;start vwxzazav;tie 1", 25, 0, 2);
        best("rule ghi;rule gh;start z(0)xz(0)yab;tie 2;least 2", 25, 26, 2);
        best("rule ghij;rule kl;start (0)ax(0)ay(1)bz(1)b;tie 2", 26, 0, 2);
        best("rule ghij;start b(0)xb(0)ya(0)xa(0);tie 2", 0, 26, 2);
        best("rule ghij;rule klmn;start a(1)xa(1)ya(0)xa(0);tie 2", 0, 26, 2);
        best("start zaxzaybcxbc;tie 2", 1, 2, 2);
        best("start bzxbzybaxba;tie 2", 1, 0, 2);
        best("rule pqrstzax;rule bczay;rule bcw;start u;tie 1", 25, 0, 2);
        best("rule acq;rule aczx;start " + Edges.unlikePairs() + "zx;tie 1", 25, 23, 2);
        best("rule " + Edges.unlikePairs() + "zx;rule acq;rule aczx;start u;tie 1", 25, 23, 2);
        // COUNT goes ahead of every TIE, and the places that count are those where it is found
        best("rule ghij;start abab(0)xabq(0)x;tie 2", 0, 1, 3);
        best("start cdxcdabxabab;tie 1", 0, 1, 3);
        best("rule ab;start cdxcdyabxab;tie 1", 2, 3, 2);
        best("rule cd;start abxcdyabxcd;tie 1", 0, 1, 2);
    }

    private static PairRules stepped(String setup, int steps, int due, String rows) {
        PairRules rules = Checks.loaded(setup);
        Checks.due("step " + steps + " of " + setup, rules.step(steps), due);
        Checks.due("rows behind it", Edges.rows(rules), rows);
        return rules;
    }

    private static void aStep() {
        Doc.says("Pairs", "A step is: if there is a BEST pair, each place where it is found (in the rows as they are) becomes one SYMBOL:"
            + " its KEPT, or else a new rule, which gets the lowest free number and the pair as its BODY.");
        stepped("start abc;inline 0", 1, 0, "abc");
        stepped("start abab;inline 0", 1, 1, "(0)(0) 0=ab");
        stepped("rule cabab;rule(0)ab;start abx(1);inline 0", 1, 1, "(2)x(1) 0=c(2)(2) 1=(0)(2) 2=ab");
        stepped("rule cd;rule ab;rule ab;start abcd(2)abe;inline 0", 1, 1, "(1)cd(2)(1)e 0=cd 1=ab 2=ab");
        // what becomes a pair only by the step is not among its places
        stepped("start aaaaaaaa;inline 0", 1, 1, "(0)(0)(0)(0) 0=aa");
        stepped("rule ab;start (0)baab(0)b(0)b;inline 0", 1, 1, "(1)aab(1)(1) 0=ab 1=(0)b");
        PairRules rules = Checks.loaded("rule uv;rule wx;rule yz;start abab;inline 0");
        rules.expand(2);
        rules.expand(0);
        Checks.due("the lowest free number", rules.make(0, 1), 0);
        Checks.due("the lowest free number", Edges.rows(rules), "(0)(0) 0=ab 1=wx");
        PairRules gap = Checks.loaded("rule uv;rule wx;rule yz;start abab;inline 0");
        gap.expand(1);
        gap.step(1);
        Checks.due("the free number in between", Edges.rows(gap), "(1)(1) 0=uv 1=ab 2=yz");
        PairRules last = Checks.loaded(Checks.times("rule yz;", 39) + "start abab;inline 0");
        last.step(1);
        Checks.due("the last number", last.startAt(0), 65);
        stepped("start " + Checks.times("a", 4) + ";least 2;inline 1", 50, 1, "(0)(0) 0=aa");
    }

    private static void inlinedBehindEachStep() {
        Doc.says("Pairs", "Then (behind each step), with INLINE 1, rules are inlined.");
        stepped("start abcdabcdabcd;tie 2;inline 0", 3, 3, "(2)(2)(2) 0=ab 1=(0)c 2=(1)d");
        // the number 0 is free again behind the second step, so the third one takes it
        stepped("start abcdabcdabcd;tie 2;inline 1", 3, 3, "(0)(0)(0) 0=abcd");
        stepped("start abcdabcdabcd;tie 2", 2, 2, "(1)d(1)d(1)d 1=abc");
        stepped("rule xy;start abab(0)", 1, 1, "(1)(1)xy 1=ab");
        // no step, so nothing is behind it
        stepped("rule xy;start abc(0)", 9, 0, "abc(0) 0=xy");
        PairRules rules = Checks.loaded("rule xy;start abab(0);inline 0");
        rules.step(1);
        Checks.due("with INLINE 0 the rule stays", rules.isRule(0) ? 1 : 0, 1);
        rules.set(6, 1);
        rules.step(1);
        Checks.due("a step that there is not inlines nothing", rules.isRule(0) ? 1 : 0, 1);
    }

    private static void inlined(String setup, int due, String rows, int accounts) {
        PairRules rules = Checks.loaded(setup);
        Checks.due("inline of " + setup, rules.inline(), due);
        Checks.due("rows behind it", Edges.rows(rules), rows);
        Checks.due("inlined and removed", rules.account(2) * 100 + rules.account(3), accounts);
    }

    private static void howRulesAreInlined() {
        Doc.says("Pairs", "Rules are inlined thus: the lowest rule with fewer than two USES: with one, its BODY takes the place of the"
            + " SYMBOL, and the rule is removed (its number is free then); without any it is removed.");
        inlined("rule ab;start c(0)(0)", 0, "c(0)(0) 0=ab", 0);
        inlined("rule ab;start c(0)d", 1, "cabd", 100);
        inlined("rule abc;start (0)", 1, "abc", 100);
        inlined("rule ab;start c", 1, "c", 1);
        inlined("rule ab;rule c(0)d;start(1)(1)", 1, "(1)(1) 1=cabd", 100);
        // the rule 0 goes first, into the rule 1, which then has no USES
        inlined("rule ab;rule(0)c;start d", 2, "d", 101);
        inlined("rule ab;rule(0)(0);start d", 2, "d", 2);
        PairRules rules = Checks.loaded("rule ab;rule ef;start c(0)(1)(1)d;inline 0");
        rules.inline();
        Checks.due("its number is free then", rules.isRule(0) ? 1 : 0, 0);
        Checks.due("and taken by the next rule", rules.make(2, 0), 0);
    }

    private static void againAndAgain() {
        Doc.says("Pairs", "This is done again and again until there is no such rule.");
        PairRules all = Checks.loaded(Edges.chain(""));
        Checks.due("forty rules", all.inline(), 40);
        Checks.due("no rule is left", all.size(2), 0);
        Checks.due("START has all of them", all.size(1), 41);
        Checks.due("nothing is left to be done", all.inline(), 0);
        PairRules unused = Checks.loaded(FORTY + "start a");
        Checks.due("forty rules without USES", unused.inline() * 1000 + unused.account(3), 40040);
        // a rule comes to fewer USES only as a higher one is removed
        inlined("rule ab;rule cd;rule(0)(1)(1);start(0)", 3, "ab", 102);
        inlined("rule ab;rule(0)(0)c;rule(1)(1)d;start(1)e(0)", 2, "(0)(0)ce(0) 0=ab", 101);
    }

    // ---- Texts that change

    private static void appendedAtTheEnd() {
        Doc.says("Texts that change", "To append a letter: it comes to the end of START.");
        PairRules rules = Checks.loaded("rule ab;start c(0)");
        rules.append(0);
        rules.append(25);
        Checks.due("behind the last SYMBOL", Edges.rows(rules), "c(0)az 0=ab");
        PairRules only = new PairRules();
        only.append(1);
        Checks.due("behind the only SYMBOL", Edges.rows(only), "ab");
    }

    private static void cut(String setup, int many, String rows, int opened) {
        PairRules rules = Checks.loaded(setup);
        int letters = rules.size(0);
        Checks.due("cut " + many + " of " + setup, rules.cut(many), rows.replaceAll(" .*", "").replaceAll("\\(\\d+\\)", "x").length());
        Checks.due("rows behind it", Edges.rows(rules), rows);
        Checks.due("letters behind it", rules.size(0), letters - many);
        Checks.due("SYMBOLS whose BODY took their place", rules.account(8), opened);
    }

    private static void cutOffTheEnd() {
        Doc.says("Texts that change", "To cut N letters off the end: again and again, as long as letters are to be cut: the last SYMBOL of"
            + " START is taken off, if its LENGTH is at most what is to be cut still; otherwise its BODY takes its place in START.");
        cut("start ab", 1, "a", 0);
        cut("rule abc;start d(0)", 3, "d 0=abc", 0);
        cut("rule abc;start d(0)", 2, "da 0=abc", 1);
        cut("rule abc;start d(0)", 1, "dab 0=abc", 1);
        cut("rule abc;start (0)", 2, "a 0=abc", 1);
        cut("rule abc;start d(0)e", 4, "d 0=abc", 0);
        cut("rule abc;start d(0)e", 3, "da 0=abc", 1);
        cut("rule abc;rule(0)(0);start d(1)", 6, "d 0=abc 1=(0)(0)", 0);
        cut("rule abc;rule(0)(0);start d(1)", 5, "da 0=abc 1=(0)(0)", 2);
        cut("rule abc;rule(0)(0);start d(1)", 4, "dab 0=abc 1=(0)(0)", 2);
        cut("rule abc;rule(0)(0);start d(1)", 3, "d(0) 0=abc 1=(0)(0)", 1);
        cut("rule abc;rule(0)(0);start d(1)", 1, "d(0)ab 0=abc 1=(0)(0)", 2);
        PairRules deep = Checks.loaded(Edges.chain(""));
        Checks.due("forty BODIES, one behind the other", deep.cut(40) * 100 + deep.account(8), 140);
        Checks.due("one letter is left", deep.startAt(0), 0);
        PairRules first = Checks.loaded(Edges.chain(""));
        Checks.due("only as long as letters are to be cut", first.cut(1) * 100 + first.account(8), 101);
        Checks.due("so the BODY of the last rule alone was opened", first.startAt(0), 64);
    }

    private static void neitherInlinesNorSteps() {
        Doc.says("Texts that change", "Neither inlines rules, nor makes steps.");
        PairRules rules = Checks.loaded("rule ab;rule xy;start cdcdc(0);inline 1");
        rules.append(3);
        Checks.due("append", Edges.rows(rules), "cdcdc(0)d 0=ab 1=xy");
        rules.cut(3);
        Checks.due("cut", Edges.rows(rules), "cdcdc 0=ab 1=xy");
        Checks.due("no step, no rule inlined or removed", rules.account(0) + rules.account(2) + rules.account(3), 0);
        PairRules used = Checks.loaded("rule ab;start(0)(0)");
        used.cut(1);
        Checks.due("a rule that is used but once then", Edges.rows(used), "(0)a 0=ab");
    }

    private static void expandARule() {
        Doc.says("Texts that change", "To expand a rule: its BODY takes the place of each of its USES, and it is removed.");
        PairRules none = Checks.loaded("rule ab;rule cd;start c(1)");
        none.expand(0);
        Checks.due("without USES", Edges.rows(none), "c(1) 1=cd");
        PairRules one = Checks.loaded("rule ab;start(0)");
        one.expand(0);
        Checks.due("one USE", Edges.rows(one), "ab");
        PairRules more = Checks.loaded("rule ab;rule(0)(0);rule(0)(1)(0);start(0)(0)c(2)(0)");
        more.expand(0);
        Checks.due("USES in START and in BODIES", Edges.rows(more), "ababc(2)ab 1=abab 2=ab(1)ab");
        more.expand(1);
        Checks.due("a rule of an expanded one", Edges.rows(more), "ababc(2)ab 2=abababab");
        PairRules last = Checks.loaded(Edges.chain(""));
        last.expand(39);
        Checks.due("the last rule", last.startAt(0) * 100 + last.size(2), 6439);
    }

    public static void main(String[] args) {
        symbols();
        rulesAtATime();
        noRuleOfItself();
        unfolding();
        textOf1To400Letters();
        lengthOfASymbol();
        usesOfARule();
        sizeOfAll();
        orderOfTheRows();
        numbersAndTheirRanges();
        twoSymbols();
        foundFromTheLeft();
        bodyThatIsThePairAlone();
        countInAllRows();
        keptIsTheLowest();
        worthAStep();
        bestPair();
        aStep();
        inlinedBehindEachStep();
        howRulesAreInlined();
        againAndAgain();
        appendedAtTheEnd();
        cutOffTheEnd();
        neitherInlinesNorSteps();
        expandARule();
        Doc.end();
    }
}
