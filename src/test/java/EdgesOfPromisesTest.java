import java.math.BigInteger;

/** The edges that the document names in promises 1 to 28: a test for each sentence. */
public final class EdgesOfPromisesTest {
    private static final int NONE = Edges.NONE;
    private static final String FORTY = Edges.FORTY;

    private EdgesOfPromisesTest() {
    }

    // ---- promises 1 to 5

    private static void promise1NewObject() {
        Doc.says("Promise 1", "Creates rows as by the setup \"start a\", with an empty buffer.");
        PairRules rules = new PairRules();
        Checks.due("as by the setup", Edges.all(rules), Edges.all(Checks.loaded("start a")));
        Checks.due("rows", Edges.rows(rules), "a");
        Checks.due("accounts", Checks.accounts(rules), "0 0 0 0 0 0 0 0 0");
        Checks.due("no changes", rules.size(11), 0);
        Checks.due("numbers", Edges.numbers(rules), 201);
        Checks.due("no letter of another object", Checks.loaded("start bcd").size(0) * 10 + new PairRules().size(0), 31);
        Checks.due("an empty buffer", rules.feed(0, 0, 0, 0, 0), 0);
        Checks.due("which is no setup", rules.load(), -11);
        Checks.due("whose end is at 0", rules.errorPosition(), 0);
        Checks.due("but a script", rules.play(), 0);
        Checks.nothingThere("nothing saved", () -> new PairRules().restore(0));
    }

    private static void promise2Feed() {
        Doc.says("Promise 2", "Appends the four bytes of each parameter, the most significant byte first, to the buffer; bytes that are 0 are"
            + " left out.");
        PairRules rules = new PairRules();
        Checks.due("none but zeros", rules.feed(0, 0, 0, 0, 0), 0);
        Checks.due("twenty bytes", rules.feed(0x73746172, 0x74206162, 0x63646566, 0x6768696a, 0x6b6c6d6e), 20);
        Checks.due("load", rules.load(), 14);
        Checks.due("their order", Edges.rows(rules), "abcdefghijklmn");
        Checks.due("zeros at each place", rules.feed(0x00737461, 0x72007400, 0x20780000, 0x00790000, 0x7a), 9);
        Checks.due("load", rules.load(), 3);
        Checks.due("their order", Edges.rows(rules), "xyz");
        Checks.due("bytes of 128 and more", rules.feed(-1, 0x80000000, 0x00800000, 0x8000, 0x80), 8);
        Checks.due("load", rules.load(), -11);
        Doc.says("Promise 2", "Returns the number of bytes in the buffer; NONE if it would exceed 600 (without those that are left out), and"
            + " then nothing is appended.");
        PairRules full = new PairRules();
        Checks.feed(full, "start a" + Checks.times(" ", 573));
        Checks.due("580 bytes", full.feed(0, 0, 0, 0, 0), 580);
        Checks.due("the last twenty", full.feed(0x20202020, 0x20202020, 0x20202020, 0x20202020, 0x20202062), 600);
        Checks.due("one more", full.feed(0x63, 0, 0, 0, 0), NONE);
        Checks.due("one more", full.feed(0, 0, 0, 0, 0x63000000), NONE);
        Checks.due("twenty more", full.feed(-1, -1, -1, -1, -1), NONE);
        Checks.due("zeros do not exceed it", full.feed(0, 0, 0, 0, 0), 600);
        Checks.due("nothing was appended", full.load(), 2);
        PairRules nearly = new PairRules();
        Checks.feed(nearly, "start a" + Checks.times(" ", 590));
        Checks.due("597 bytes and four more", nearly.feed(0x62, 0x620000, 0x62000062, 0, 0), NONE);
        Checks.due("none of the four", nearly.feed(0, 0, 0, 0, 0), 597);
        Checks.due("597 bytes and three more", nearly.feed(0, 0x62000000, 0, 0x620062, 0), 600);
        Checks.due("all of the three", nearly.load(), 4);
        for (int i = 0; i < 5; i++) {
            int[] fours = new int[5];
            fours[i] = 0x62626262;
            PairRules one = new PairRules();
            Checks.feed(one, "start a" + Checks.times(" ", 590));
            Checks.due("597 bytes and four more in the parameter " + i, one.feed(fours[0], fours[1], fours[2], fours[3], fours[4]), NONE);
            fours[i] = 0x62620062;
            Checks.due("597 bytes and three more in the parameter " + i, one.feed(fours[0], fours[1], fours[2], fours[3], fours[4]), 600);
            Checks.due("they are appended", one.load(), 4);
        }
        PairRules last = new PairRules();
        Checks.feed(last, Checks.times(" ", 599));
        Checks.due("599 bytes and two more", last.feed(0x2020, 0, 0, 0, 0), NONE);
        Checks.due("599 bytes and one more", last.feed(0x2000, 0, 0, 0, 0), 600);
        Checks.due("the last position", last.load() * 1000 + last.errorPosition(), -11000 + 600);
    }

    private static PairRules busy() {
        PairRules rules = Checks.loaded("rule ab;start abab(0)c;tie 1;least 3;inline 0");
        rules.append(3);
        rules.save(0);
        rules.save(1);
        rules.cut(1);
        rules.step(1);
        return rules;
    }

    private static void promise3Load() {
        Doc.says("Promise 3", "Reads the buffer as a setup, which replaces everything (all accounts are 0); what can be undone and the saved"
            + " states are discarded.");
        PairRules rules = busy();
        Checks.due("the letters of the TEXT", Checks.load(rules, "start xyz"), 3);
        Checks.due("everything is as by the setup", Edges.all(rules), Edges.all(Checks.loaded("start xyz")));
        Checks.due("all accounts are 0", Checks.accounts(rules), "0 0 0 0 0 0 0 0 0");
        Checks.due("no changes", rules.size(11), 0);
        Checks.nothingThere("nothing can be undone", rules::undo);
        Checks.nothingThere("no saved state", () -> rules.restore(0));
        Checks.nothingThere("no saved state", () -> rules.restore(1));
        rules.append(1);
        Checks.due("only what comes then", rules.undo(), 0);
        Doc.says("Promise 3", "No rule is inlined by it.");
        Edges.loads("rule ab;rule cd;start (0);inline 1", 2, "(0) 0=ab 1=cd");
        Edges.loads("rule ab;start abab(0)", 6, "abab(0) 0=ab");
        Checks.due("none of forty", Edges.fits(FORTY + "start a", 1).size(2), 40);
        Doc.says("Promise 3", "The buffer is empty afterwards, also after an error.");
        Checks.due("afterwards", rules.feed(0, 0, 0, 0, 0), 0);
        Checks.due("an error", Checks.load(rules, "start a;"), -11);
        Checks.due("after an error", rules.feed(0, 0, 0, 0, 0), 0);
        Checks.due("so a second load finds none", rules.load(), -11);
        Checks.due("at the position 0", rules.errorPosition(), 0);
        Doc.says("Promise 3", "Returns the number of letters of the TEXT; -10 minus the error code if the setup has an error (then only the"
            + " buffer and the error position change).");
        Checks.due("letters, not SYMBOLS", Checks.load(rules, "rule abc;start(0)(0)d"), 7);
        String[] setups = {"start a,", "start (40)", "rule a;start b", "start (0)", FORTY + "rule ab;start a"};
        int[] places = {7, 7, 6, 7, 320};
        for (int i = 0; i < 5; i++) {
            PairRules other = busy();
            other.report();
            String before = Edges.all(other);
            Checks.due("the error code " + (i + 1), Checks.load(other, setups[i]), -11 - i);
            Checks.due("only the error position changes", other.errorPosition(), places[i]);
            Checks.due("nothing else", Edges.all(other), before);
            Checks.due("not the report", other.reportByte(3), '(');
            Checks.due("not what can be undone", other.undo(), 2);
            Checks.due("not the saved states", other.restore(0) * 10 + other.restore(1), 99);
        }
        PairRules late = busy();
        String before = Edges.all(late);
        Checks.due("an error at the very end", Checks.load(late, "rule xy;rule(0)z;start(1)q;least 9;tie 2;inline 1;tie 1"), -13);
        Checks.due("nothing else changes", Edges.all(late), before);
    }

    private static void promise4Play() {
        Doc.says("Promise 4", "Change: reads the buffer as a script and does it.");
        PairRules rules = Checks.loaded("start a");
        Checks.due("two orders", Checks.play(rules, "append b;append c;"), 2);
        Checks.due("are done", Edges.rows(rules), "abc");
        Checks.due("as one change", rules.size(11), 1);
        Doc.says("Promise 4", "The buffer is empty afterwards, also after an error.");
        Checks.due("afterwards", rules.feed(0, 0, 0, 0, 0), 0);
        Checks.due("an error", Checks.play(rules, "append d;append"), -11);
        Checks.due("after an error", rules.feed(0, 0, 0, 0, 0), 0);
        Checks.due("a script that ends early", Checks.play(rules, "expand 0;append d;"), 0);
        Checks.due("after that", rules.feed(0, 0, 0, 0, 0), 0);
        Checks.due("so a second play does nothing", rules.play(), 0);
        Checks.due("nothing was done", Edges.rows(rules), "abc");
        Doc.says("Promise 4", "Returns the number of orders that were done (\"again\" not counted); -10 minus the error code if the script has an"
            + " error (then only the buffer and the error position change).");
        Edges.plays("start a", "", 0, "a");
        Edges.plays("start a", "again 3();again 0(append b;);", 0, "a");
        Edges.plays("start a", "again 3(append b;again 2(append c;););", 9, "abccbccbcc");
        Edges.plays("start a", "append bcd;expand 0;", 1, "abcd");
        Edges.plays("start a", "again 20(append b;);again 20(append c;);", 40, "a" + Checks.times("b", 20) + Checks.times("c", 20));
        Edges.plays("start a", "again 20(append b;);again 20(append c;);append d;", 40, "a" + Checks.times("b", 20) + Checks.times("c", 20));
        String[] scripts = {"append b;,", "append b;cut 401;", "", "append b;make a;", Checks.times("inlined;", 30) + "append b;"};
        int[] places = {9, 13, 0, 14, 240};
        for (int i = 0; i < 5; i++) {
            if (i == 2) {
                continue;
            }
            PairRules other = busy();
            other.report();
            String before = Edges.all(other);
            Checks.due("the error code " + (i + 1), Checks.play(other, scripts[i]), -11 - i);
            Checks.due("only the error position changes", other.errorPosition(), places[i]);
            Checks.due("nothing else", Edges.all(other), before);
            Checks.due("not the report", other.reportByte(3), '(');
            Checks.due("not what can be undone", other.undo(), 2);
            Checks.due("not the saved states", other.restore(0) * 10 + other.restore(1), 99);
        }
    }

    private static void promise5ErrorPosition() {
        Doc.says("Promise 5", "Returns the position of the error of the latest call of load or play; NONE if that call had no error, or there"
            + " was no such call.");
        PairRules rules = new PairRules();
        Checks.due("no such call", rules.errorPosition(), NONE);
        rules.append(1);
        Checks.feed(rules, "#");
        Checks.due("still none", rules.errorPosition(), NONE);
        rules.load();
        Checks.due("of load, the first position", rules.errorPosition(), 0);
        Checks.play(rules, "append b;");
        Checks.due("no error of play", rules.errorPosition(), NONE);
        Checks.play(rules, "append b");
        Checks.due("of play", rules.errorPosition(), 8);
        Checks.load(rules, "start a");
        Checks.due("no error of load", rules.errorPosition(), NONE);
        Checks.play(rules, "expand 0;");
        Checks.due("an order that can't be done is no error", rules.errorPosition(), NONE);
        Checks.load(rules, Checks.times(" ", 600));
        Checks.due("the last position", rules.errorPosition(), 600);
        rules.append(3);
        rules.undo();
        rules.feed(-1, 0, 0, 0, 0);
        rules.feed(0, 0, 0, 0, 0);
        rules.report();
        rules.save(1);
        rules.restore(1);
        Checks.due("other calls leave it", rules.errorPosition(), 600);
    }

    // ---- promises 6 to 19

    private static void sizes(String setup, int... due) {
        PairRules rules = new PairRules();
        Checks.load(rules, setup);
        for (int what = 0; what < 12; what++) {
            Checks.due("size " + what + " of " + setup, rules.size(what), due[what]);
        }
    }

    private static void promise6Size() {
        Doc.says("Promise 6", "0 letters of the TEXT, 1 SYMBOLS of START, 2 rules, 3 SIZE, 4 LEAST, 5 TIE, 6 INLINE, 7 the most SYMBOLS of a BODY"
            + " (0 without rules), 8 how deep the rules lie (a letter is 0 deep, a rule 1 more than the deepest SYMBOL of its BODY; the"
            + " deepest SYMBOL of START), 9 unlike letters of the TEXT, 10 pairs that are WORTH a step, 11 changes that can be undone");
        sizes("start z", 1, 1, 0, 1, 2, 0, 1, 0, 0, 1, 0, 0);
        sizes("start " + Checks.times("a", 400) + ";least 9;tie 2;inline 0", 400, 400, 0, 400, 9, 2, 0, 0, 0, 1, 1, 0);
        sizes(FORTY + "start abcdefghijklmnopqrstuvwxyz", 26, 26, 40, 106, 2, 0, 1, 2, 0, 26, 1, 0);
        sizes(Edges.HUNDRED + "rule(0)(0)(0)(0);start(1)", 400, 1, 2, 105, 2, 0, 1, 100, 2, 1, 2, 0);
        sizes(Edges.chain(""), 41, 1, 40, 81, 2, 0, 1, 2, 40, 3, 0, 0);
        sizes("rule ab;rule(0)c;rule abcde;start(0)b;tie 1", 3, 2, 3, 11, 2, 1, 1, 5, 1, 2, 1, 0);
        sizes("start abab;least 3", 4, 4, 0, 4, 3, 0, 1, 0, 0, 2, 0, 0);
        PairRules rules = new PairRules();
        for (int i = 1; i < 11; i++) {
            rules.append(i % 2);
            Checks.due("changes that can be undone", rules.size(11), Math.min(i, 8));
        }
        rules.append(25);
        Checks.due("unlike letters as they are now", rules.size(9), 3);
        rules.cut(11);
        Checks.due("unlike letters as they are now", rules.size(9), 1);
        Doc.says("Promise 6", "Throws `IllegalArgumentException` if what is out of range");
        Edges.outside("size", 0, 11, rules::size);
    }

    private static void promise7IsRule() {
        Doc.says("Promise 7", "Returns whether there is a rule with a number.");
        PairRules rules = Checks.loaded(FORTY + "start a");
        Checks.due("the first one", rules.isRule(0) ? 1 : 0, 1);
        Checks.due("the last one", rules.isRule(39) ? 1 : 0, 1);
        rules.expand(0);
        rules.expand(39);
        Checks.due("the first one was removed", rules.isRule(0) ? 1 : 0, 0);
        Checks.due("the last one was removed", rules.isRule(39) ? 1 : 0, 0);
        Checks.due("the one next to it was not", rules.isRule(38) ? 1 : 0, 1);
        Checks.due("without rules", new PairRules().isRule(0) ? 1 : 0, 0);
        Doc.says("Promise 7", "@throws IndexOutOfBoundsException if rule is not 0 to 39.");
        for (int rule : Edges.beyond(0, 39)) {
            Checks.badIndex("isRule " + rule, () -> rules.isRule(rule) ? 1 : 0);
        }
    }

    private static void promise8Rule() {
        Doc.says("Promise 8", "Returns of a rule: what 0 SYMBOLS of its BODY, 1 USES, 2 LENGTH, 3 how deep it is, 4 how often it comes in what"
            + " START unfolds to, on all levels together (in START itself, in the BODIES of rules that come, and so on).");
        PairRules rules = Checks.loaded("rule ab;rule(0)c(0);rule(1)(0);rule xyz(2);start(1)(2)(0)");
        int[][] due = {{2, 4, 2, 1, 6}, {3, 2, 5, 2, 2}, {2, 2, 7, 3, 1}, {4, 0, 10, 4, 0}};
        for (int rule = 0; rule < 4; rule++) {
            for (int what = 0; what < 5; what++) {
                Checks.due("rule " + rule + " " + what, rules.rule(rule, what), due[rule][what]);
            }
        }
        // a rule of a low number that is made of one of a high number
        PairRules crossed = Checks.loaded("rule cd;rule(0)(0)e;rule(1)f;start(2)(1)ab(2)(1)");
        crossed.expand(0);
        crossed.make(28, 27);
        Checks.due("its rows", Edges.rows(crossed), "(0)ab(0) 0=(2)(1) 1=cdcde 2=(1)f");
        int[][] crosses = {{2, 2, 11, 3, 2}, {5, 2, 5, 1, 4}, {2, 1, 6, 2, 2}};
        for (int rule = 0; rule < 3; rule++) {
            for (int what = 0; what < 5; what++) {
                Checks.due("crossed rule " + rule + " " + what, crossed.rule(rule, what), crosses[rule][what]);
            }
        }
        Checks.due("crossed rules are as deep", crossed.size(8), 3);
        PairRules behind = Checks.loaded("rule xy;rule cd;rule(1)(1)e;start(0)(0)(2)(2)(2)");
        behind.expand(1);
        behind.make(28, 28);
        Checks.due("its rows", Edges.rows(behind), "(0)(0)(1)(2) 0=xy 1=(2)(2) 2=cdcde");
        int[][] lies = {{2, 2, 2, 1, 2}, {2, 1, 10, 2, 1}, {5, 3, 5, 1, 3}};
        for (int rule = 0; rule < 3; rule++) {
            for (int what = 0; what < 5; what++) {
                Checks.due("rule " + rule + " " + what + " behind a short one", behind.rule(rule, what), lies[rule][what]);
            }
        }
        PairRules many = Edges.fits("rule ab;rule(0)(0);rule(1)(1);rule(2)(2);rule(3)(3);rule(4)(4);start(5)(5)(5)(5)(5)(5)", 384);
        Checks.due("it comes 192 times", many.rule(0, 4), 192);
        Checks.due("and is used twice", many.rule(0, 1), 2);
        Doc.says("Promise 8", "@throws IndexOutOfBoundsException if there is no such rule.");
        for (int rule : Edges.beyond(0, 3)) {
            Checks.badIndex("rule " + rule, () -> rules.rule(rule, 0));
            Checks.badIndex("rule " + rule + " with a wrong what", () -> rules.rule(rule, 9));
        }
        Checks.badIndex("of a new object", () -> new PairRules().rule(0, 0));
        Doc.says("Promise 8", "@throws IllegalArgumentException if what is out of range.");
        Edges.outside("rule 0", 0, 4, what -> rules.rule(0, what));
    }

    private static void promises9To12Places() {
        PairRules rules = Checks.loaded("rule ab;rule(0)z(0);start(1)c(0)");
        Doc.says("Promise 9", "Returns the SYMBOL at a place of a BODY, from 0 on.");
        Checks.due("the first place", rules.bodyAt(1, 0), 26);
        Checks.due("a letter", rules.bodyAt(1, 1), 25);
        Checks.due("the last place", rules.bodyAt(1, 2), 26);
        Doc.says("Promise 9", "@throws IndexOutOfBoundsException if there is no such rule or place.");
        for (int number : Edges.beyond(0, 2)) {
            Checks.badIndex("bodyAt 1 " + number, () -> rules.bodyAt(1, number));
        }
        for (int number : Edges.beyond(0, 1)) {
            Checks.badIndex("bodyAt " + number + " 0", () -> rules.bodyAt(number, 0));
        }
        Checks.badIndex("a place of a longer BODY", () -> rules.bodyAt(0, 2));
        Checks.badIndex("the last number", () -> rules.bodyAt(39, 0));
        Doc.says("Promise 10", "Returns the SYMBOL at a place of START, from 0 on.");
        Checks.due("the first place", rules.startAt(0), 27);
        Checks.due("the last place", rules.startAt(2), 26);
        Doc.says("Promise 10", "@throws IndexOutOfBoundsException if there is no such place.");
        for (int number : Edges.beyond(0, 2)) {
            Checks.badIndex("startAt " + number, () -> rules.startAt(number));
        }
        Doc.says("Promise 11", "Returns the letter (0 to 25) at a place of the TEXT, from 0 on, as START unfolds to it.");
        String text = "abzabcab";
        for (int place = 0; place < 8; place++) {
            Checks.due("letterAt " + place, rules.letterAt(place), text.charAt(place) - 'a');
        }
        PairRules full = Edges.fits(Edges.HUNDRED + "start(0)(0)(0)" + Checks.times("a", 99) + "z", 400);
        Checks.due("the last of 400 letters", full.letterAt(399) * 100 + full.letterAt(398), 2500);
        Doc.says("Promise 11", "@throws IndexOutOfBoundsException if there is no such place.");
        for (int number : Edges.beyond(0, 7)) {
            Checks.badIndex("letterAt " + number, () -> rules.letterAt(number));
        }
        Checks.badIndex("letterAt 400", () -> full.letterAt(400));
        Doc.says("Promise 12", "Returns the place in START of the SYMBOL that unfolds to the letter at a place of the TEXT.");
        int[] due = {0, 0, 0, 0, 0, 1, 2, 2};
        for (int place = 0; place < 8; place++) {
            Checks.due("symbolOf " + place, rules.symbolOf(place), due[place]);
        }
        Checks.due("the last letter of a SYMBOL", full.symbolOf(299) * 1000 + full.symbolOf(300), 2003);
        Checks.due("the last of 400 letters", full.symbolOf(399), 102);
        Doc.says("Promise 12", "@throws IndexOutOfBoundsException if there is no such place of the TEXT.");
        for (int number : Edges.beyond(0, 7)) {
            Checks.badIndex("symbolOf " + number, () -> rules.symbolOf(number));
        }
    }

    private static void promise13Letters() {
        Doc.says("Promise 13", "Returns how often a letter (0 to 25) is in the TEXT.");
        PairRules rules = Checks.loaded("rule az;rule bb;start(0)(0)a");
        Checks.due("the first letter", rules.letters(0), 3);
        Checks.due("the last letter", rules.letters(25), 2);
        Checks.due("one of a rule without USES", rules.letters(1), 0);
        Checks.due("400 times", Edges.fits(Edges.HUNDRED + "start(0)(0)(0)(0)", 400).letters(0), 400);
        rules.append(25);
        Checks.due("as it is now", rules.letters(25), 3);
        rules.cut(3);
        Checks.due("as it is now", rules.letters(25), 1);
        Doc.says("Promise 13", "@throws IllegalArgumentException if letter is out of range.");
        Edges.outside("letters", 0, 25, rules::letters);
    }

    private static void promise14Account() {
        Doc.says("Promise 14", "Returns an account since the setup: 0 steps that changed something, 1 rules that were made, 2 rules that were inlined,"
            + " 3 rules that were removed as they had no USES, 4 rules that were expanded, 5 places that became one SYMBOL, 6 letters that"
            + " were appended, 7 letters that were cut off, 8 SYMBOLS of START whose BODY took their place in a cut.");
        PairRules rules = Checks.loaded("rule gh;rule ef;start abababab(1)");
        Checks.due("at first", Checks.accounts(rules), "0 0 0 0 0 0 0 0 0");
        rules.stepsLeft();
        rules.bestTie();
        rules.inlinable();
        Checks.due("what will come does not count", Checks.accounts(rules), "0 0 0 0 0 0 0 0 0");
        rules.step(1);
        Checks.due("a step with both kinds of inlining", Checks.accounts(rules), "1 1 1 1 0 4 0 0 0");
        rules.step(50);
        Checks.due("a second one", Edges.rows(rules) + " " + Checks.accounts(rules), "(0)(0)ef 0=(2)(2) 2=ab 2 2 1 1 0 6 0 0 0");
        rules.step(50);
        Checks.due("no more, which does not count", Checks.accounts(rules), "2 2 1 1 0 6 0 0 0");
        rules.make(4, 5);
        Checks.due("a make is no step", Checks.accounts(rules), "2 3 1 1 0 7 0 0 0");
        rules.make(5, 4);
        rules.expand(1);
        rules.expand(1);
        Checks.due("a refused call does not count", Checks.accounts(rules), "2 3 1 1 1 7 0 0 0");
        Checks.play(rules, "append abe;append f;");
        Checks.due("letters of scripts", Checks.accounts(rules), "2 3 1 1 1 7 4 0 0");
        rules.step(1);
        Checks.due("a step of two places", Checks.accounts(rules), "3 4 1 1 1 9 4 0 0");
        rules.step(1);
        Checks.due("a step of a KEPT makes no rule", Checks.accounts(rules), "4 4 1 1 1 10 4 0 0");
        Checks.due("behind both", Edges.rows(rules), "(0)(0)(1)(2)(1) 0=(2)(2) 1=ef 2=ab");
        rules.cut(7);
        Checks.due("a cut that opens two BODIES", Edges.rows(rules) + " " + Checks.accounts(rules),
            "(0)(2)a 0=(2)(2) 1=ef 2=ab 4 4 1 1 1 10 4 7 2");
        rules.undo();
        Checks.due("undone", Checks.accounts(rules), "4 4 1 1 1 10 4 0 0");
        Checks.load(rules, "start ?");
        Checks.due("a setup with an error leaves them", rules.account(5), 10);
        Checks.load(rules, "start a");
        Checks.due("a new setup", Checks.accounts(rules), "0 0 0 0 0 0 0 0 0");
        PairRules places = Checks.loaded("rule ababab;rule xab;start(0)(0)(1)(1)cab");
        places.make(0, 1);
        Checks.due("places in all rows", places.account(5), 5);
        Doc.says("Promise 14", "@throws IllegalArgumentException if what is out of range.");
        Edges.outside("account", 0, 8, rules::account);
    }

    private static void promises15And16Gaps() {
        Doc.says("Promise 15", "Returns how many letters of what START unfolds to are not those of the TEXT as it was told, appended to and cut"
            + " letter by letter, and by how much both differ in length, together (always 0).");
        PairRules[] objects = {new PairRules(), Edges.fits("start " + Checks.times("a", 400), 400), Edges.fits(Edges.chain(""), 41),
            Edges.fits(FORTY + "start abab", 4), Edges.fits(Edges.twice(), 398), busy()};
        for (int i = 0; i < objects.length; i++) {
            PairRules rules = objects[i];
            On[] changes = {one -> one.append(1), one -> one.step(3), one -> one.cut(1), one -> one.expand(39), PairRules::inline,
                one -> one.cut(20), one -> one.step(50), one -> one.make(0, 1), PairRules::undo, one -> one.save(0),
                one -> Checks.play(one, "append abcabc;step 2;cut 9;"), one -> one.restore(0), one -> one.append(25)};
            for (int j = 0; j < changes.length; j++) {
                changes[j].answer(rules);
                Checks.due("gap of " + i + " behind " + j, rules.gap(), 0);
                Checks.due("rulesGap of " + i + " behind " + j, rules.rulesGap(), 0);
            }
        }
        Doc.says("Promise 16", "Returns the rules at first, with accounts 1, less accounts 2, 3 and 4 and the rules now (always 0).");
        PairRules rules = Checks.loaded(Checks.times("rule yz;", 39) + "start abababab(0)");
        Checks.due("rulesGap at first", rules.rulesGap(), 0);
        rules.make(0, 1);
        Checks.due("of forty rules", rules.rulesGap(), 0);
        rules.expand(5);
        rules.inline();
        Checks.due("of rules inlined and removed", rules.rulesGap() * 10 + rules.size(2), 1);
        Checks.due("where all kinds are counted", rules.account(1) * 1000000 + rules.account(2) * 10000 + rules.account(3) * 10
            + rules.account(4), 1010371);
    }

    private interface On {
        long answer(PairRules rules);
    }

    private static void promises17To19Numbers() {
        Doc.says("Promise 17", "Returns SIZE as a double, divided by the number of letters of the TEXT as a double.");
        Checks.due("of one letter", new PairRules().ratio() == 1.0 ? 1 : 0, 1);
        Checks.due("above 1", Checks.loaded(FORTY + "start a").ratio() == 81.0 ? 1 : 0, 1);
        Checks.due("below 1", Checks.loaded("rule abc;start(0)(0)(0)(0)").ratio() == 7.0 / 12.0 ? 1 : 0, 1);
        Checks.due("not as floats", Checks.loaded("rule abc;start(0)(0)(0)(0)").ratio() == 7.0f / 12.0f ? 1 : 0, 0);
        Doc.says("Promise 18", "Returns the mean LENGTH of the SYMBOLS of START, both numbers as floats, as the 32 bits of that float.");
        Checks.due("a mean of 1", new PairRules().meanBits(), 0x3f800000);
        Checks.due("the greatest mean", Edges.fits(Edges.HUNDRED + "rule(0)(0)(0)(0);start(1)", 400).meanBits(), Float.floatToIntBits(400f));
        Checks.due("a third", Checks.loaded("rule ab;start(0)(0)a").meanBits(), Float.floatToIntBits(5f / 3f));
        Checks.due("just above 1", Checks.loaded("rule ab;start(0)" + Checks.times("a", 398)).meanBits(), Float.floatToIntBits(400f / 399f));
        Checks.due("just below 2", Checks.loaded("rule ab;start a" + Checks.times("(0)", 150)).meanBits(), Float.floatToIntBits(301f / 151f));
        Checks.due("2", Checks.loaded("rule ab;start (0)").meanBits(), Float.floatToIntBits(2f));
        Doc.says("Promise 19", "Returns a number for the TEXT: h is 1 at first; for each letter, from the first one on, it becomes h * 31 + the"
            + " letter + 1 (64 bits, wrapping around).");
        for (int letters : new int[] {1, 2, 11, 12, 13, 14, 400}) {
            for (char letter : new char[] {'a', 'm', 'z'}) {
                BigInteger due = BigInteger.ONE;
                for (int i = 0; i < letters; i++) {
                    due = due.multiply(BigInteger.valueOf(31)).add(BigInteger.valueOf(letter - 'a' + 1));
                }
                PairRules rules = Edges.fits("start " + Checks.times("" + letter, letters), letters);
                Checks.due("digest of " + letters + " times " + letter, rules.digest(), due.longValue());
            }
        }
        Checks.due("the order counts", Checks.loaded("start abc").digest(), ((31 + 1) * 31 + 2) * 31 + 3);
    }

    // ---- promises 20 to 28

    private static void promise20Count() {
        Doc.says("Promise 20", "Returns COUNT of a pair. @param a 0 to 65, a SYMBOL. @param b 0 to 65.");
        PairRules rules = Checks.loaded(Edges.chain("(39)a(39)"));
        Checks.due("of the last rule", rules.count(65, 65), 1);
        Checks.due("of the last rule and the first letter", rules.count(65, 0) * 10 + rules.count(0, 65), 11);
        Checks.due("of the last letter", Checks.loaded("start zzz").count(25, 25), 1);
        Doc.says("Promise 20", "@throws IllegalArgumentException if a or b is out of range (a rule that there is not is allowed: 0).");
        Edges.outside("count a", 0, 65, a -> rules.count(a, 0));
        Edges.outside("count b", 0, 65, b -> rules.count(0, b));
        PairRules none = new PairRules();
        Checks.due("a rule that there is not", none.count(26, 0) + none.count(0, 65) + none.count(65, 65), 0);
        rules.expand(39);
        Checks.due("a rule that there is no more", rules.count(65, 65), 0);
    }

    private static void promise21Best() {
        Doc.says("Promise 21", "Returns of the BEST pair: what 0 its first SYMBOL, 1 its second one, 2 COUNT, 3 KEPT (NONE), 4 how many pairs that"
            + " are WORTH a step have the same COUNT.");
        String[] setups = {"start zyxzy", "rule xy;rule zy;start czy", "start abcdxabycdabq", "rule cd;rule ab;start abxcdyef", "start bcbcabxab"};
        int[][] due = {{25, 24, 2, NONE, 1}, {25, 24, 1, 1, 1}, {0, 1, 3, NONE, 1}, {0, 1, 1, 1, 2}, {0, 1, 2, NONE, 2}};
        for (int i = 0; i < setups.length; i++) {
            PairRules rules = Checks.loaded(setups[i]);
            for (int what = 0; what < 5; what++) {
                Checks.due("best " + what + " of " + setups[i], rules.best(what), due[i][what]);
            }
        }
        Checks.due("pairs that are not WORTH it do not count", Checks.loaded("rule ab;start abcde").best(4), 1);
        Doc.says("Promise 21", "NONE (4: 0) without a BEST pair.");
        String[] withouts = {"start a", "start abc", "start abab;least 3", FORTY + "start abab", "rule ab;start a"};
        for (String setup : withouts) {
            PairRules rules = Checks.loaded(setup);
            for (int what = 0; what < 5; what++) {
                Checks.due("best " + what + " of " + setup, rules.best(what), what == 4 ? 0 : NONE);
            }
        }
        Doc.says("Promise 21", "@throws IllegalArgumentException if what is out of range.");
        Edges.outside("best without a BEST pair", 0, 4, new PairRules()::best);
        Edges.outside("best", 0, 4, Checks.loaded("start abab")::best);
    }

    private static void why(String setup, int a, int b, int due) {
        Checks.due("why " + a + " " + b + " of " + setup, Checks.loaded(setup).why(a, b), due);
    }

    private static void promise22Why() {
        Doc.says("Promise 22", "Returns why a step does not choose a pair, the first that applies: 1 its COUNT is 0; 2 its COUNT is less than LEAST,"
            + " and it has no KEPT; 3 there is no free number, and it has no KEPT; 4 another one that is WORTH a step has a greater COUNT; 5"
            + " another one is ahead by TIE, or of several then; 0 if it is the BEST.");
        why("start abab;least 9", 1, 1, 1);
        why("rule ab;start c;least 9", 0, 1, 1);
        why(FORTY + "start abc", 2, 0, 1);
        why("start abab;least 3", 0, 1, 2);
        why("start ababab;least 3", 0, 1, 0);
        why(FORTY + "start abab;least 3", 0, 1, 2);
        why("start abcdcdcd", 0, 1, 2);
        why("rule ab;start abc;least 9", 0, 1, 0);
        why(FORTY + "start abab", 0, 1, 3);
        why(FORTY + "start ababyzyzyz", 0, 1, 3);
        why(FORTY + "start abyz", 24, 25, 0);
        why(Checks.times("rule yz;", 39) + "start abab", 0, 1, 0);
        why("start ababcdcdcd", 0, 1, 4);
        why("rule ab;start abcdcd", 0, 1, 4);
        // one of a greater COUNT that is not WORTH a step is not ahead
        why(FORTY + "start abababyz", 24, 25, 0);
        why("rule ab;start abcdcd;least 3", 0, 1, 0);
        why("start ababcdcd", 2, 3, 5);
        why("start cdcdabab;tie 1", 0, 1, 5);
        why("start cdcdabab;tie 1", 2, 3, 0);
        why("rule xyz;start abxab(0)c(0)cq;tie 2", 0, 1, 5);
        why("rule xyz;start abxab(0)c(0)cq;tie 2", 26, 2, 0);
        why("start acxacab;least 2;tie 2", 0, 1, 2);
        why("start acxacabyab;tie 2", 0, 2, 5);
        why("start acxacabyab;tie 2", 0, 1, 0);
        Doc.says("Promise 22", "@throws IllegalArgumentException if a or b is not 0 to 65.");
        PairRules rules = new PairRules();
        Edges.outside("why a", 0, 65, a -> rules.why(a, 0));
        Edges.outside("why b", 0, 65, b -> rules.why(0, b));
        Checks.due("a rule that there is not", rules.why(65, 65), 1);
    }

    private static void promise23Gain() {
        Doc.says("Promise 23", "Returns by how much SIZE would be less behind a make of a pair (see make; without inlining); below 0 if it would be"
            + " more (as if a number was free, if it has no KEPT); 0 if its COUNT is 0.");
        for (int count = 1; count < 6; count++) {
            String row = Checks.times("ab", count);
            Checks.due("a new rule for " + row, Checks.loaded("start " + row).gain(0, 1), count - 2);
            Checks.due("without a free number", Checks.loaded(FORTY + "start " + row).gain(0, 1), count - 2);
            Checks.due("a KEPT for " + row, Checks.loaded("rule ab;start " + row).gain(0, 1), count);
            PairRules rules = Checks.loaded("rule xy;start (0)" + row);
            int before = rules.size(3);
            rules.make(0, 1);
            Checks.due("as a make does, without inlining", before - rules.size(3), count - 2);
        }
        Checks.due("a COUNT of 0", Checks.loaded("start ab").gain(1, 0), 0);
        Checks.due("a COUNT of 0 and a KEPT", Checks.loaded("rule ab;start c").gain(0, 1), 0);
        Checks.due("a rule that there is not", new PairRules().gain(65, 65), 0);
        Checks.due("the greatest", Edges.fits("start " + Checks.times("a", 400), 400).gain(0, 0), 198);
        Doc.says("Promise 23", "@throws IllegalArgumentException if a or b is not 0 to 65.");
        PairRules rules = new PairRules();
        Edges.outside("gain a", 0, 65, a -> rules.gain(a, 0));
        Edges.outside("gain b", 0, 65, b -> rules.gain(0, b));
    }

    private static void promises24And25Steps() {
        PairRules many = Edges.fits(Edges.twice(), 398);
        Doc.says("Promise 24", "Returns how many steps change something until there is no BEST pair.");
        Checks.due("none of one letter", new PairRules().stepsLeft(), 0);
        Checks.due("none below LEAST", Checks.loaded("start abab;least 3").stepsLeft(), 0);
        Checks.due("none without a free number", Checks.loaded(FORTY + "start abab;inline 0").stepsLeft(), 0);
        Checks.due("one", Checks.loaded("start abab").stepsLeft(), 1);
        Checks.due("more than a step takes", many.stepsLeft(), 198);
        Doc.says("Promise 25", "Returns SIZE behind some steps. @param steps 0 to 100.");
        Checks.due("behind no step", many.sizeIn(0), 398);
        int[] behind = {1, 2, 50, 51, 99, 100};
        for (int steps : behind) {
            Checks.due("behind " + steps, many.sizeIn(steps), 399 - steps);
        }
        Checks.due("nothing changes", many.size(3) * 10 + many.size(11), 3980);
        PairRules few = Checks.loaded("rule xy;start abcabc(0);tie 2");
        int[] due = {9, 8, 7, 7};
        for (int steps = 0; steps < 4; steps++) {
            Checks.due("behind " + steps + " of two", few.sizeIn(steps), due[steps]);
        }
        Checks.due("behind 100 of two", few.sizeIn(100), 7);
        Checks.due("without a step nothing is inlined", Checks.loaded("rule xy;start abc(0)").sizeIn(100), 6);
        Doc.says("Promise 25", "@throws IllegalArgumentException if steps is out of range.");
        Edges.outside("sizeIn", 0, 100, many::sizeIn);
    }

    /** The SIZES at the end by the values of LEAST or TIE from low on, and which value is best. */
    private static void ends(String setup, int what, int low, int best, int... due) {
        for (int i = 0; i < due.length; i++) {
            PairRules rules = Checks.loaded(setup);
            rules.set(what, low + i);
            rules.step(50);
            Checks.due("SIZE of " + setup + " with " + (low + i), rules.size(3), due[i]);
        }
        PairRules rules = Checks.loaded(setup);
        int before = Edges.numbers(rules);
        Checks.due("best of " + setup, what == 5 ? rules.bestTie() : rules.bestLeast(), best);
        Checks.due("nothing is set", Edges.numbers(rules), before);
    }

    private static void promises26And27Best() {
        Doc.says("Promise 26", "Returns the TIE, were it set now, with which SIZE is least when there is no BEST pair any more; of several the lowest one.");
        for (int tie = 0; tie < 3; tie++) {
            Checks.due("of several", Checks.loaded("start abab;tie " + tie).bestTie(), 0);
            Checks.due("without a BEST pair", Checks.loaded("start abc;tie " + tie).bestTie(), 0);
            ends("start aaaaaabaaaab;tie " + tie, 5, 0, 0, 8, 9, 9);
            ends("start bbabbba;tie " + tie, 5, 0, 0, 6, 7, 6);
            ends("start aabbbbaab;tie " + tie, 5, 0, 1, 9, 8, 8);
            ends("start bbabbaab;tie " + tie, 5, 0, 1, 8, 7, 8);
            ends("start bbbbaabaa;tie " + tie, 5, 0, 2, 9, 9, 8);
            ends("start abbbaabbaa;tie " + tie, 5, 0, 2, 10, 9, 8);
        }
        Doc.says("Promise 27", "Returns the LEAST, 2 to 9, were it set now, with which SIZE is least when there is no BEST pair any more; of several the"
            + " lowest one.");
        for (int least = 2; least < 10; least++) {
            Checks.due("of several", Checks.loaded("start abab;least " + least).bestLeast(), 2);
            Checks.due("without a BEST pair", Checks.loaded("start abc;least " + least).bestLeast(), 2);
            Checks.due("the lowest one is best", Checks.loaded("start ababab;least " + least).bestLeast(), 2);
            ends("start abaaba;least " + least, 4, 2, 2, 5, 6, 6, 6, 6, 6, 6, 6);
            ends("rule ba;start a(0)abaaaba;least " + least, 4, 2, 3, 8, 7, 9, 9, 9, 9, 9, 9);
        }
        ends("rule ba;start babab(0)", 4, 2, 3, 7, 6, 6, 6, 6, 6, 6, 6);
        ends("rule ba;start abaabab;inline 0", 4, 2, 4, 8, 8, 7, 7, 7, 7, 7, 7);
        ends("rule ab;start bababbaba;inline 0", 4, 2, 5, 9, 9, 9, 8, 8, 8, 8, 8);
        ends("rule ab;start bababbabbba(0)aba(0)b", 4, 2, 6, 16, 16, 16, 16, 15, 15, 15, 15);
        ends("rule ba;start aabbbbabababaabab;inline 0", 4, 2, 7, 15, 15, 15, 15, 15, 14, 14, 14);
        ends("rule bb;rule ab;start (0)bb(0)babbbbabaabab(0)bbababaaa;inline 0", 4, 2, 8, 24, 24, 24, 24, 24, 24, 22, 22);
        ends("rule bb;start ba(0)aabbaaababbba(0)ba(0)bbaaabbaa(0)a(0)bb", 4, 2, 8, 27, 27, 28, 29, 29, 29, 25, 31);
        ends("rule ab;start aaa(0)baababbab(0)bbaabaabaabaaa(0)a(0)aaba(0)aaab(0)", 4, 2, 9, 29, 29, 29, 31, 34, 34, 34, 27);
    }

    private static void promise28Inlinable() {
        Doc.says("Promise 28", "Returns how many rules would be inlined or removed, were rules inlined now.");
        Checks.due("without rules", new PairRules().inlinable(), 0);
        Checks.due("with two USES", Checks.loaded("rule ab;start(0)(0)").inlinable(), 0);
        Checks.due("with one USE", Checks.loaded("rule ab;start(0);inline 0").inlinable(), 1);
        Checks.due("without USES", Checks.loaded("rule ab;start c").inlinable(), 1);
        Checks.due("only as another one is removed", Checks.loaded("rule ab;rule(0)(0);start c").inlinable(), 2);
        PairRules later = Checks.loaded("rule ab;start(0)(0)");
        later.cut(2);
        Checks.due("as it is now", later.inlinable(), 1);
        later.undo();
        Checks.due("as it is now", later.inlinable(), 0);
        PairRules all = Checks.loaded(Edges.chain(""));
        Checks.due("all forty", all.inlinable(), 40);
        Checks.due("nothing changes", all.size(2) * 10 + all.size(11), 400);
        Checks.due("all forty", all.inline(), 40);
    }

    public static void main(String[] args) {
        promise1NewObject();
        promise2Feed();
        promise3Load();
        promise4Play();
        promise5ErrorPosition();
        promise6Size();
        promise7IsRule();
        promise8Rule();
        promises9To12Places();
        promise13Letters();
        promise14Account();
        promises15And16Gaps();
        promises17To19Numbers();
        promise20Count();
        promise21Best();
        promise22Why();
        promise23Gain();
        promises24And25Steps();
        promises26And27Best();
        promise28Inlinable();
        Doc.end();
    }
}
