import java.util.NoSuchElementException;

/** The edges that the document names under 'Changes' and in promises 29 to 40: a test for each sentence. */
public final class EdgesOfChangesTest {
    private static final int NONE = Edges.NONE;
    private static final String FORTY = Edges.FORTY;

    private EdgesOfChangesTest() {
    }

    private interface On {
        long answer(PairRules rules);
    }

    // ---- Changes

    private static void whatChangesAre() {
        Doc.says("Changes", "step, inline, make, expand, append, cut, set and play are changes.");
        PairRules rules = Checks.loaded("rule xy;start abab");
        Checks.due("at first", rules.size(11), 0);
        Checks.due("step", rules.step(1) * 100 + rules.size(11), 101);
        Checks.due("inline", rules.inline() * 100 + rules.size(11), 2);
        Checks.due("make", rules.make(27, 27) * 100 + rules.size(11), 3);
        Checks.due("expand", rules.expand(0) * 100 + rules.size(11), 104);
        Checks.due("append", rules.append(3) * 100 + rules.size(11), 505);
        Checks.due("cut", rules.cut(2) * 100 + rules.size(11), 206);
        Checks.due("set", rules.set(4, 3) * 100 + rules.size(11), 207);
        Checks.due("play", Checks.play(rules, "cut 1;") * 100 + rules.size(11), 108);
        Checks.due("undo takes one back", rules.undo() * 100 + rules.size(11), 707);
        rules.report();
        rules.save(0);
        Checks.feed(rules, "start");
        Checks.due("a load with an error", rules.load(), -11);
        int answers = rules.stepsLeft() + rules.sizeIn(1) + rules.bestTie() + rules.bestLeast() + rules.inlinable();
        Checks.due("the answers of what will come", answers, 0 + 4 + 0 + 2 + 1);
        Checks.due("other calls are none", rules.size(11), 7);
        rules.restore(0);
        Checks.due("restore is none", rules.size(11), 0);
        rules.append(1);
        Checks.load(rules, "start a");
        Checks.due("load is none", rules.size(11), 0);
    }

    /** Two changes, a state saved in the slot 0, an error position of 9 and three bytes in the buffer. */
    private static PairRules busy() {
        PairRules rules = Checks.loaded("rule ab;start abab(0)c;tie 1;least 3;inline 0");
        rules.append(3);
        rules.save(0);
        rules.cut(1);
        Checks.play(rules, "append x;?");
        Checks.feed(rules, "app");
        return rules;
    }

    private static void throwing(String what, Class<? extends RuntimeException> want, On call) {
        PairRules rules = busy();
        rules.report();
        String before = Edges.all(rules);
        Checks.throwing(what, want, () -> call.answer(rules));
        Checks.due(what + " changes nothing", Edges.all(rules), before);
        Checks.due(what + " leaves the buffer", rules.feed(0, 0, 0, 0, 0), 3);
        Checks.due(what + " leaves the error position", rules.errorPosition(), 9);
        Checks.due(what + " leaves the report", rules.reportByte(4), '(');
        Checks.due(what + " leaves what was saved", rules.restore(0), 9);
    }

    private static void whatChangesNothing() {
        Doc.says("Changes", "A call that throws an exception or returns a negative error code changes nothing, except that play empties"
            + " the buffer.");
        throwing("step 0", IllegalArgumentException.class, rules -> rules.step(0));
        throwing("step 51", IllegalArgumentException.class, rules -> rules.step(51));
        throwing("make -1 0", IllegalArgumentException.class, rules -> rules.make(-1, 0));
        throwing("make 0 66", IllegalArgumentException.class, rules -> rules.make(0, 66));
        throwing("expand 40", IndexOutOfBoundsException.class, rules -> rules.expand(40));
        throwing("append 26", IllegalArgumentException.class, rules -> rules.append(26));
        throwing("cut 0", IllegalArgumentException.class, rules -> rules.cut(0));
        throwing("cut 401", IllegalArgumentException.class, rules -> rules.cut(401));
        throwing("set 4 10", IllegalArgumentException.class, rules -> rules.set(4, 10));
        throwing("set 7 0", IllegalArgumentException.class, rules -> rules.set(7, 0));
        throwing("save 2", IllegalArgumentException.class, rules -> rules.save(2));
        throwing("restore 2", IllegalArgumentException.class, rules -> rules.restore(2));
        throwing("restore 1", NoSuchElementException.class, rules -> rules.restore(1));
        throwing("sizeIn 101", IllegalArgumentException.class, rules -> rules.sizeIn(101));
        throwing("rule 1 0", IndexOutOfBoundsException.class, rules -> rules.rule(1, 0));
        PairRules none = Checks.loaded("start ab");
        String atFirst = Edges.all(none);
        Checks.nothingThere("undo without a change", none::undo);
        Checks.due("undo without a change changes nothing", Edges.all(none), atFirst);
        PairRules rules = busy();
        Edges.refused("make -2", rules, () -> rules.make(1, 1), -2);
        Edges.refused("make -7", rules, () -> rules.make(0, 40), -7);
        Edges.refused("expand -4", rules, () -> rules.expand(1), -4);
        Edges.refused("cut -6", rules, () -> rules.cut(7), -6);
        Checks.due("the error position stays", rules.errorPosition(), 9);
        Checks.due("the buffer stays", rules.feed(0, 0, 0, 0, 0), 3);
        PairRules other = busy();
        Checks.feed(other, "end b;step 9;step");
        Edges.refused("play with an error", other, other::play, -11);
        Checks.due("play empties the buffer", other.feed(0, 0, 0, 0, 0), 0);
        Checks.due("what was saved stays", other.restore(0), 9);
    }

    private static void errorCodes() {
        Doc.says("Changes", "Error codes: -2 the COUNT of the pair is 0; -3 there is no free number for a rule (and no KEPT); -4 there is no"
            + " such rule; -5 the TEXT would have more than 400 letters; -6 the TEXT would have none; -7 a SYMBOL of the pair is a rule"
            + " that there is not.");
        PairRules rules = Checks.loaded("rule ab;start ab(0)c");
        Edges.refused("a COUNT of 0", rules, () -> rules.make(1, 0), -2);
        Edges.refused("a COUNT of 0 of a rule", rules, () -> rules.make(26, 26), -2);
        Checks.due("a COUNT of 1", rules.make(0, 1), 0);
        Edges.refused("a COUNT of 0 with a KEPT", rules, () -> rules.make(0, 1), -2);
        PairRules full = Checks.loaded(FORTY + "start abyz");
        Edges.refused("no free number and no KEPT", full, () -> full.make(0, 1), -3);
        Checks.due("no free number, but a KEPT", full.make(24, 25), 0);
        PairRules nearly = Checks.loaded(Checks.times("rule yz;", 39) + "start ab");
        Checks.due("the last free number", nearly.make(0, 1), 39);
        Edges.refused("no such rule", rules, () -> rules.expand(1), -4);
        Edges.refused("the last number", rules, () -> rules.expand(39), -4);
        Checks.due("such a rule", rules.expand(0), 2);
        Edges.refused("it is gone then", rules, () -> rules.expand(0), -4);
        PairRules letters = Edges.fits("start " + Checks.times("a", 399), 399);
        Checks.due("400 letters", letters.append(25), 400);
        Checks.due("more than 400 letters", letters.append(25), -5);
        Checks.due("a cut of one less than there are", letters.cut(399), 1);
        Checks.due("a cut of all letters", letters.cut(1), -6);
        Checks.due("a cut of more letters", letters.cut(400), -6);
        PairRules four = Checks.loaded("rule ab;start(0)(0)");
        Edges.refused("a cut of all letters of rules", four, () -> four.cut(4), -6);
        Checks.due("a cut of all letters but one", four.cut(3), 1);
        Edges.refused("the first one is a rule that there is not", rules, () -> rules.make(27, 0), -7);
        Edges.refused("the second one", rules, () -> rules.make(0, 65), -7);
        Edges.refused("one that was expanded", rules, () -> rules.make(26, 2), -7);
    }

    private static void everyOtherCallIsRecorded() {
        Doc.says("Changes", "Every other call of these is recorded (play as a whole), also if nothing is different then.");
        PairRules rules = Checks.loaded("rule ab;start(0)c(0)");
        On[] without = {one -> one.step(1), one -> one.step(50), PairRules::inline, one -> one.set(4, 2), one -> one.set(5, 0),
            one -> one.set(6, 1), one -> Checks.play(one, "")};
        String rows = Edges.rows(rules) + Checks.accounts(rules);
        for (int i = 0; i < without.length; i++) {
            without[i].answer(rules);
            Checks.due("recorded without an effect, " + i, rules.size(11), i + 1);
        }
        Checks.due("nothing is different", Edges.rows(rules) + Checks.accounts(rules), rows);
        for (int i = without.length - 1; i >= 0; i--) {
            Checks.due("undone, " + i, rules.undo(), i);
        }
        Checks.play(rules, "expand 9;append d;");
        Checks.due("a script whose first order can't be done", rules.size(11), 1);
        Checks.due("nothing is different", Edges.rows(rules) + Checks.accounts(rules), rows);
        Checks.play(rules, "append d;cut 1;expand 0;tie 2;");
        Checks.due("four orders are one change", rules.size(11), 2);
        rules.undo();
        Checks.due("undone as a whole", Edges.rows(rules) + Checks.accounts(rules), rows);
        PairRules unused = Checks.loaded("rule ab;start c");
        Checks.due("an expand without USES", unused.expand(0) * 10 + unused.size(11), 1);
    }

    private static void ordersAsTheirCalls() {
        Doc.says("Changes", "A script does its orders one after the other, each as its call does (inlined as inline; least, tie and mode as"
            + " set; append each letter of the word as one append, all of which are one order; make by the two letters)");
        PairRules step = Edges.plays("start abcabcabcabc", "least 4;tie 2;step 50;", 3, "(1)(1)(1)(1) 1=abc");
        Checks.due("step", Checks.accounts(step), "2 2 1 0 0 8 0 0 0");
        PairRules inlined = Edges.plays("rule ab;start c(0);inline 0", "inlined;", 1, "cab");
        Checks.due("inlined, whatever INLINE is", Checks.accounts(inlined), "0 0 1 0 0 0 0 0 0");
        PairRules numbers = Edges.plays("start abab", "least 9;tie 2;mode 0;step 1;", 4, "abab");
        Checks.due("least, tie and mode", Edges.numbers(numbers), 920);
        PairRules appended = Edges.plays("start a", "append bcd;", 1, "abcd");
        Checks.due("each letter as one append", appended.account(6) * 10 + appended.size(11), 31);
        PairRules made = Edges.plays("rule xy;start abcab(0);least 9", "make ab;", 1, "(1)c(1)(0) 0=xy 1=ab");
        Checks.due("a make is no step and inlines nothing", Checks.accounts(made), "0 1 0 0 0 2 0 0 0");
        Edges.plays("rule ab;start abc", "make ab;make bc;", 1, "(0)c 0=ab");
        PairRules expanded = Edges.plays("rule ab;start (0)c(0)", "expand 0;", 1, "abcab");
        Checks.due("expand", expanded.account(4), 1);
        PairRules cut = Edges.plays("rule abc;start (0)(0)", "cut 1;cut 2;", 2, "(0) 0=abc");
        Checks.due("cut", cut.account(7) * 10 + cut.account(8), 31);
        Edges.plays("start a", "append b;cut 1;append c;make ac;expand 0;", 5, "ac");
    }

    private static void endOfAScript() {
        Doc.says("Changes", "until one would return a negative error code; it ends as a whole then (what was done ahead of that stays, so"
            + " letters of that append), and when 40 orders (\"again\" not counted) were done.");
        Edges.plays("start ab", "append c;make ba;append d;", 1, "abc");
        Edges.plays("start ab", "append c;expand 0;append d;", 1, "abc");
        Edges.plays("start ab", "append c;cut 3;append d;", 1, "abc");
        Edges.plays("start ab", "cut 2;append d;", 0, "ab");
        PairRules full = Checks.loaded(FORTY + "start ab");
        Checks.due("-3", Checks.play(full, "append c;make ab;append d;") * 10 + full.size(1), 13);
        Edges.plays("start ab", "again 3(again 3(append c;expand 0;append d;);append e;);append f;", 1, "abc");
        Edges.plays("start abc", "again 9(cut 1;);append f;", 2, "a");
        PairRules near = Edges.fits("start " + Checks.times("a", 398), 398);
        Checks.due("-5 within a word", Checks.play(near, "cut 1;append bcdef;append g;"), 1);
        Checks.due("its first letters stay", near.size(0) * 100 + near.account(6), 40003);
        Checks.due("the last one of them", near.letterAt(399), 3);
        Checks.due("no gap", near.gap(), 0);
        PairRules fits = Edges.fits("start " + Checks.times("a", 398), 398);
        Checks.due("a word that just fits", Checks.play(fits, "append bc;cut 1;"), 2);
        String thirtyNine = "again 19(append b;append c;);append d;";
        Edges.plays("start a", thirtyNine, 39, "a" + Checks.times("bc", 19) + "d");
        Edges.plays("start a", thirtyNine + "append e;", 40, "a" + Checks.times("bc", 19) + "de");
        Edges.plays("start a", thirtyNine + "append e;append f;", 40, "a" + Checks.times("bc", 19) + "de");
        Edges.plays("start a", thirtyNine + "append ef;append g;", 40, "a" + Checks.times("bc", 19) + "def");
        Edges.plays("start a", "again 20(append b;append c;);append d;", 40, "a" + Checks.times("bc", 20));
        Edges.plays("start a", "again 14(append b;append c;append d;);append e;", 40, "a" + Checks.times("bcd", 13) + "b");
        Edges.plays("start a", "again 20(again 20(append b;););append z;", 40, "a" + Checks.times("b", 40));
        Edges.plays("start a", "again 20(again 20();again 1(););append z;", 1, "az");
        PairRules forty = Edges.plays("start ab", "again 20(append c;append d;);expand 0;", 40, "ab" + Checks.times("cd", 20));
        Checks.due("one change", forty.undo() * 10 + forty.size(1), 2);
    }

    private static void eightChanges() {
        Doc.says("Changes", "The 8 most recent changes can be undone, the most recent one first.");
        for (int changes = 0; changes <= 20; changes++) {
            PairRules rules = new PairRules();
            for (int i = 1; i <= changes; i++) {
                rules.append(i);
            }
            int left = Math.min(changes, 8);
            Checks.due("after " + changes, rules.size(11), left);
            for (int i = 1; i <= left; i++) {
                Checks.due("left behind the undo " + i, rules.undo(), left - i);
                Checks.due("letters behind the undo " + i, rules.size(0), 1 + changes - i);
                Checks.due("the last letter behind the undo " + i, rules.letterAt(changes - i), changes - i);
            }
            Checks.nothingThere("no more after " + changes, rules::undo);
            Checks.due("nor is any other one taken back", rules.size(0), 1 + changes - left);
        }
        PairRules mixed = new PairRules();
        for (int i = 0; i < 30; i++) {
            mixed.append(i % 26);
            mixed.append(i % 26);
            mixed.undo();
        }
        Checks.due("each undo leaves seven of eight", mixed.size(11) * 100 + mixed.size(0), 731);
    }

    private static void whatUndoingRestores() {
        Doc.says("Changes", "Undoing restores everything but the buffer, the error position, the report and the saved states.");
        PairRules rules = busy();
        String before = Edges.all(rules);
        On[] changes = {one -> one.step(9), PairRules::inline, one -> one.make(0, 1), one -> one.expand(0), one -> one.append(9),
            one -> one.cut(6), one -> one.set(4, 2), one -> one.set(5, 2), one -> one.set(6, 1)};
        for (int i = 0; i < changes.length; i++) {
            PairRules other = busy();
            changes[i].answer(other);
            Checks.due("the change " + i + " is one", other.size(11), 3);
            other.undo();
            Checks.due("all behind the change " + i, Edges.all(other), before);
        }
        Checks.due("all of a script", Checks.play(rules, "nd q;least 2;tie 0;mode 1;step 9;make ab;"), NONE - 10);
        Checks.due("all of a script", Checks.play(rules, "append q;least 2;tie 0;mode 1;step 9;cut 3;expand 0;"), 7);
        Checks.due("is undone", rules.undo() == 2 ? Edges.all(rules) : "", before);
        rules.append(1);
        rules.append(2);
        rules.report();
        rules.save(1);
        Checks.due("a load with an error", Checks.load(rules, "start ?"), -11);
        Checks.feed(rules, "append");
        rules.undo();
        Checks.due("the buffer stays", rules.feed(0, 0, 0, 0, 0), 6);
        Checks.due("the error position stays", rules.errorPosition(), 6);
        Checks.due("the report stays", rules.reportByte(9), 'c');
        Checks.due("a saved state stays", rules.restore(1), 10);
        Checks.due("with the letter that was undone", rules.letterAt(8), 2);
        Checks.due("the other one too", rules.restore(0), 9);
        PairRules good = Checks.loaded("start a");
        Checks.play(good, "append b;?");
        good.append(1);
        Checks.play(good, "append b;");
        good.undo();
        good.undo();
        Checks.due("no error position of the play that was undone", good.errorPosition(), NONE);
    }

    private static void parametersAhead() {
        Doc.says("Changes", "Parameters are checked first, in their order; IndexOutOfBoundsException (for a rule or a place that there is"
            + " not) ahead of IllegalArgumentException (for any other number out of its range), both ahead of error codes.");
        PairRules rules = Checks.loaded("rule ab;start(0)c");
        Checks.badIndex("rule 40 5", () -> rules.rule(40, 5));
        Checks.badIndex("rule -1 -1", () -> rules.rule(-1, -1));
        Checks.badIndex("rule 1 5, a number that is free", () -> rules.rule(1, 5));
        Checks.badArgument("rule 0 5", () -> rules.rule(0, 5));
        Checks.badIndex("bodyAt 40 99", () -> rules.bodyAt(40, 99));
        Checks.badIndex("bodyAt 1 0", () -> rules.bodyAt(1, 0));
        Checks.badIndex("expand 40 ahead of -4", () -> rules.expand(40));
        Checks.badIndex("expand -1 ahead of -4", () -> rules.expand(-1));
        Checks.badArgument("make 65 66 ahead of -7", () -> rules.make(65, 66));
        Checks.badArgument("make 66 65 ahead of -7", () -> rules.make(66, 65));
        Checks.badArgument("make -1 1 ahead of -2", () -> rules.make(-1, 1));
        PairRules rulesFull = Checks.loaded(FORTY + "start ab");
        Checks.badArgument("make 0 66 ahead of -3", () -> rulesFull.make(0, 66));
        Checks.badArgument("cut 401 ahead of -6", () -> rules.cut(401));
        Checks.badArgument("cut 0", () -> rules.cut(0));
        PairRules textFull = Edges.fits("start " + Checks.times("a", 400), 400);
        Checks.badArgument("append 26 ahead of -5", () -> textFull.append(26));
        Checks.badArgument("append -1 ahead of -5", () -> textFull.append(-1));
        Checks.badArgument("set 3 99", () -> rules.set(3, 99));
        Checks.badArgument("set 7 0", () -> rules.set(7, 0));
        Checks.badArgument("restore 2 ahead of nothing saved", () -> rules.restore(2));
        Checks.badArgument("restore -1 ahead of nothing saved", () -> rules.restore(-1));
        Checks.badArgument("best 5 ahead of no BEST pair", () -> rules.best(5));
        Checks.badArgument("why 66 0 ahead of a COUNT of 0", () -> rules.why(66, 0));
    }

    private static void noSuchValue() {
        Doc.says("Changes", "The constants: `NONE = -1`: There is no such value.");
        Checks.due("NONE", PairRules.NONE, -1);
        PairRules rules = new PairRules();
        Checks.due("no BEST pair", rules.best(0), -1);
        Checks.due("no error", rules.errorPosition(), -1);
        Checks.due("no report", rules.reportByte(0), -1);
    }

    // ---- promises 29 to 40

    private static void promise29Step() {
        Doc.says("Promise 29", "Change: makes steps, until there is no BEST pair.");
        Checks.due("none at once", Checks.loaded("start abc").step(1), 0);
        Checks.due("none of one letter", new PairRules().step(50), 0);
        PairRules two = Checks.loaded("start ababxcdcd;inline 0");
        Checks.due("as many as there are", two.step(50), 2);
        Checks.due("no BEST pair then", two.best(0), NONE);
        Checks.due("nothing is left", two.step(50), 0);
        PairRules full = Checks.loaded(Checks.times("rule yz;", 39) + "start ababcdcd;inline 0");
        Checks.due("until there is no free number", full.step(50), 1);
        Doc.says("Promise 29", "@param steps 1 to 50, the most of them.");
        PairRules many = Edges.fits(Edges.twice(), 398);
        Checks.due("one of many", many.step(1), 1);
        Checks.due("two of many", many.step(2), 2);
        Checks.due("fifty of many", many.step(50), 50);
        Checks.due("as told", many.account(0), 53);
        Checks.due("the others are left", many.stepsLeft(), 145);
        Checks.due("each call is one change", many.size(11), 3);
        Doc.says("Promise 29", "@return how many changed something.");
        Checks.due("49 steps and then the last ones", many.step(49) + many.step(49) * 100 + many.step(49) * 10000, 474949);
        Doc.says("Promise 29", "@throws IllegalArgumentException if steps is out of range");
        Edges.outside("step", 1, 50, many::step);
        Checks.due("a call that throws is not recorded", many.size(11), 8);
    }

    private static void promise30Inline() {
        Doc.says("Promise 30", "Change: rules are inlined, whatever INLINE is.");
        for (int inline = 0; inline < 2; inline++) {
            PairRules rules = Checks.loaded("rule ab;rule ef;rule cd;start(0)(1)(1);inline " + inline);
            rules.inline();
            Checks.due("with INLINE " + inline, Edges.rows(rules), "ab(1)(1) 1=ef");
            Checks.due("INLINE is as it was", rules.size(6), inline);
            Checks.due("recorded", rules.undo(), 0);
        }
        Doc.says("Promise 30", "@return how many were inlined or removed");
        Checks.due("none without rules", new PairRules().inline(), 0);
        Checks.due("none of those with two USES", Checks.loaded("rule ab;start(0)(0)").inline(), 0);
        Checks.due("one with one USE", Checks.loaded("rule ab;start(0)").inline(), 1);
        Checks.due("one without USES", Checks.loaded("rule ab;start a").inline(), 1);
        Checks.due("both kinds together", Checks.loaded("rule ab;rule cd;start(0)").inline(), 2);
        Checks.due("all forty inlined", Checks.loaded(Edges.chain("")).inline(), 40);
        Checks.due("all forty removed", Checks.loaded(FORTY + "start a").inline(), 40);
    }

    private static void make(String setup, int a, int b, int due, String rows) {
        PairRules rules = Checks.loaded(setup);
        Checks.due("make of " + setup, rules.make(a, b), due);
        Checks.due("rows behind it", Edges.rows(rules), rows);
        Checks.due("no step", rules.account(0), 0);
        Checks.due("recorded", rules.undo(), 0);
    }

    private static void promise31Make() {
        Doc.says("Promise 31", "Change: a pair becomes one SYMBOL as in a step, whether it is the BEST, WORTH one, or not; nothing is inlined.");
        make("start ababcd", 0, 1, 0, "(0)(0)cd 0=ab");
        make("start ababcdcd", 2, 3, 0, "abab(0)(0) 0=cd");
        make("start abcd;least 9", 2, 3, 0, "ab(0) 0=cd");
        make("rule xy;rule uv;start ab(0);inline 1", 0, 1, 2, "(2)(0) 0=xy 1=uv 2=ab");
        make("start zz", 25, 25, 0, "(0) 0=zz");
        Doc.says("Promise 31", "It is no step (account 0). @return the rule (its number).");
        make("rule xy;rule ab;start ab(0)", 0, 1, 1, "(1)(0) 0=xy 1=ab");
        make("rule xy;start ab(0)", 1, 26, 1, "a(1) 0=xy 1=b(0)");
        PairRules last = Checks.loaded(Checks.times("rule yz;", 39) + "start ab");
        Checks.due("the last number", last.make(0, 1), 39);
        Doc.says("Promise 31", "Error codes, the first one that applies: -7, -2, -3.");
        PairRules full = Checks.loaded(FORTY + "start ab");
        Edges.refused("-2 ahead of -3", full, () -> full.make(1, 0), -2);
        Edges.refused("-3", full, () -> full.make(0, 1), -3);
        PairRules rules = Checks.loaded("rule xy;start a(0)");
        Edges.refused("-7 ahead of -2, the first SYMBOL", rules, () -> rules.make(27, 0), -7);
        Edges.refused("-7 ahead of -2, the second SYMBOL", rules, () -> rules.make(0, 27), -7);
        Edges.refused("-7 of both", rules, () -> rules.make(65, 65), -7);
        Edges.refused("-2 of rules that there are", rules, () -> rules.make(26, 26), -2);
        full.expand(39);
        Edges.refused("-7 of the last number", full, () -> full.make(0, 65), -7);
        Doc.says("Promise 31", "@throws IllegalArgumentException if a or b is not 0 to 65");
        Edges.outside("make a", 0, 65, a -> rules.make(a, 0));
        Edges.outside("make b", 0, 65, b -> rules.make(0, b));
    }

    private static void promise32Expand() {
        Doc.says("Promise 32", "Change: expands a rule.");
        PairRules rules = Checks.loaded("rule ab;rule(0)(0)c;start(1)(0);inline 1");
        Checks.due("all its USES", rules.expand(0), 3);
        Checks.due("nothing is inlined", Edges.rows(rules), "(1)ab 1=ababc");
        Checks.due("recorded", rules.undo(), 0);
        Doc.says("Promise 32", "@return USES that it had.");
        Checks.due("no USES", Checks.loaded("rule ab;start c").expand(0), 0);
        Checks.due("one", Checks.loaded("rule ab;start(0)").expand(0), 1);
        Checks.due("200 of them", Edges.fits("rule ab;start " + Checks.times("(0)", 180), 360).expand(0), 180);
        Doc.says("Promise 32", "Error code: -4.");
        Edges.refused("a free number", rules, () -> rules.expand(2), -4);
        Edges.refused("the last number", rules, () -> rules.expand(39), -4);
        Doc.says("Promise 32", "@throws IndexOutOfBoundsException if rule is not 0 to 39");
        for (int rule : Edges.beyond(0, 39)) {
            Checks.badIndex("expand " + rule, () -> rules.expand(rule));
        }
    }

    private static void promise33Append() {
        Doc.says("Promise 33", "Change: appends a letter. @param letter 0 to 25.");
        PairRules rules = new PairRules();
        for (int letter = 0; letter < 26; letter++) {
            Checks.due("append " + letter, rules.append(letter), letter + 2);
            Checks.due("the last letter", rules.letterAt(letter + 1), letter);
        }
        Doc.says("Promise 33", "@return the number of letters of the TEXT then.");
        Checks.due("letters, not SYMBOLS", Checks.loaded("rule abc;start(0)(0)").append(0), 7);
        PairRules full = Edges.fits(Edges.HUNDRED + "start(0)(0)(0)" + Checks.times("a", 98), 398);
        Checks.due("399 letters", full.append(0), 399);
        Checks.due("400 letters", full.append(0), 400);
        Doc.says("Promise 33", "Error code: -5.");
        Checks.due("401 letters", full.append(0), -5);
        Checks.due("not recorded", full.size(11) * 1000 + full.size(0), 2400);
        full.cut(1);
        Checks.due("room again", full.append(1), 400);
        Checks.due("full again", full.append(1), -5);
        Doc.says("Promise 33", "@throws IllegalArgumentException if letter is out of range");
        Edges.outside("append", 0, 25, rules::append);
    }

    private static void promise34Cut() {
        Doc.says("Promise 34", "Change: cuts letters off. @param many 1 to 400.");
        PairRules full = Edges.fits("start " + Checks.times("a", 400), 400);
        Checks.due("one", full.cut(1), 399);
        Checks.due("many", full.cut(397), 2);
        Checks.due("400 of fewer", full.cut(400), -6);
        Doc.says("Promise 34", "@return SYMBOLS of START then.");
        Checks.due("SYMBOLS, not letters", Checks.loaded("rule abc;start(0)(0)d").cut(1), 2);
        Checks.due("of an opened BODY too", Checks.loaded("rule abc;start(0)(0)d").cut(2), 3);
        Checks.due("the last SYMBOL", Checks.loaded("rule abc;start(0)(0)d").cut(4), 1);
        Doc.says("Promise 34", "Error code: -6.");
        PairRules rules = Checks.loaded("rule abc;start(0)(0)d");
        Edges.refused("all letters", rules, () -> rules.cut(7), -6);
        Edges.refused("one more", rules, () -> rules.cut(8), -6);
        Checks.due("all but one", rules.cut(6), 1);
        Edges.refused("the only letter", rules, () -> rules.cut(1), -6);
        Doc.says("Promise 34", "@throws IllegalArgumentException if many is out of range");
        Edges.outside("cut", 1, 400, rules::cut);
    }

    private static void promise35Set() {
        Doc.says("Promise 35", "Change: sets a number. @param what 4 LEAST, 5 TIE, 6 INLINE.");
        PairRules rules = Checks.loaded("start ababab;least 3");
        Checks.due("LEAST", rules.set(4, 4) * 10 + rules.stepsLeft(), 30);
        Checks.due("LEAST", rules.set(4, 3) * 10 + rules.stepsLeft(), 41);
        Checks.due("TIE", rules.set(5, 1), 0);
        Checks.due("INLINE", rules.set(6, 0), 1);
        Checks.due("all of them", Edges.numbers(rules), 310);
        Doc.says("Promise 35", "@param value a number in its range. @return the previous one.");
        int[][] ranges = {{4, 2, 9}, {5, 0, 2}, {6, 0, 1}};
        for (int[] range : ranges) {
            rules.set(range[0], range[2]);
            for (int value = range[1]; value <= range[2]; value++) {
                Checks.due("set " + range[0] + " " + value, rules.set(range[0], value), value == range[1] ? range[2] : value - 1);
                Checks.due("the same again", rules.set(range[0], value), value);
            }
        }
        Doc.says("Promise 35", "@throws IllegalArgumentException if what or value is out of range");
        for (int[] range : ranges) {
            Edges.outside("value of " + range[0], range[1], range[2], value -> rules.set(range[0], value));
        }
        Edges.outside("what", 4, 6, what -> rules.set(what, what == 4 ? 2 : 0));
        Checks.badArgument("a LEAST for TIE", () -> rules.set(5, 9));
        Checks.badArgument("a TIE for INLINE", () -> rules.set(6, 2));
        Checks.badArgument("an INLINE for LEAST", () -> rules.set(4, 1));
    }

    private static String report(PairRules rules, int bytes) {
        Checks.due("its bytes", rules.report(), bytes);
        StringBuilder text = new StringBuilder();
        for (int i = 0; i < bytes; i++) {
            text.append((char) rules.reportByte(i));
        }
        Checks.due("no byte behind it", rules.reportByte(bytes), NONE);
        return text.toString();
    }

    private static void promises36And37Report() {
        Doc.says("Promise 36", "Writes a report, in place of the one before: START and then, for each rule, by numbers, a space, its number, an"
            + " equals sign (byte 61) and its BODY.");
        PairRules rules = Checks.loaded("rule ab;rule(0)z;start(1)c(0)");
        Checks.due("with rules", report(rules, 19), "(1)c(0) 0=ab 1=(0)z");
        Checks.due("without rules", report(new PairRules(), 1), "a");
        rules.expand(0);
        Checks.due("a shorter one in its place, the free number left out", report(rules, 12), "(1)cab 1=abz");
        PairRules full = Checks.loaded(Checks.times("rule az;", 40) + "start a");
        StringBuilder due = new StringBuilder("a");
        for (int rule = 0; rule < 40; rule++) {
            due.append(' ').append(rule).append("=az");
        }
        Checks.due("forty rules", report(full, 1 + 10 * 5 + 30 * 6), due.toString());
        Doc.says("Promise 36", "In rows a letter is written as itself, a rule as its number in round brackets.");
        Checks.due("letters from a to z", report(Checks.loaded("start abyz"), 4), "abyz");
        Checks.due("numbers of one and of two digits", report(twelve(), 79), "(0)(9)(10)(11) 0=ab 1=ab 2=ab 3=ab 4=ab 5=ab 6=ab 7=ab"
            + " 8=ab 9=ab 10=ab 11=a(10)");
        Doc.says("Promise 36", "@return the number of its bytes");
        Checks.due("the shortest report", new PairRules().report(), 1);
        PairRules longest = Edges.fits(Edges.HUNDRED + Checks.times("rule(0)(0)(0)(0);", 27) + "start(0)(0)(0)(0)", 400);
        longest.expand(0);
        Checks.due("a long report", longest.report(), 400 + 9 * 403 + 18 * 404);
        Checks.due("its last byte", longest.reportByte(400 + 9 * 403 + 18 * 404 - 1), 'a');
        Checks.due("none behind it", longest.reportByte(400 + 9 * 403 + 18 * 404), NONE);
        Doc.says("Promise 37", "Returns byte i of the latest report; NONE if there is none such.");
        PairRules other = Checks.loaded("start abc");
        Checks.due("ahead of the first report", other.reportByte(0), NONE);
        other.report();
        Checks.due("the first byte", other.reportByte(0), 'a');
        Checks.due("the last byte", other.reportByte(2), 'c');
        Checks.due("behind it", other.reportByte(3), NONE);
        for (int i : Edges.beyond(0, 2)) {
            Checks.due("byte " + i, other.reportByte(i), NONE);
        }
        other.cut(2);
        Checks.due("the latest report stays as it was", other.reportByte(2), 'c');
        other.report();
        Checks.due("a shorter one is in its place", other.reportByte(1), NONE);
    }

    private static PairRules twelve() {
        return Checks.loaded(Checks.times("rule ab;", 11) + "rule a(10);start(0)(9)(10)(11)");
    }

    private static void promise38Undo() {
        Doc.says("Promise 38", "Undoes the most recent change.");
        PairRules rules = Checks.loaded("start ab");
        rules.append(2);
        rules.set(5, 2);
        rules.undo();
        Checks.due("the most recent one alone", rules.size(0) * 10 + rules.size(5), 30);
        rules.append(3);
        rules.undo();
        Checks.due("one that was made behind an undo", Edges.rows(rules), "abc");
        Doc.says("Promise 38", "@return the number of changes that can still be undone.");
        Checks.due("none", rules.undo(), 0);
        for (int i = 0; i < 9; i++) {
            rules.append(i);
        }
        for (int i = 7; i >= 0; i--) {
            Checks.due("still", rules.undo(), i);
        }
        Checks.due("the oldest one is not undone", Edges.rows(rules), "aba");
        Doc.says("Promise 38", "@throws NoSuchElementException if there is none");
        Checks.nothingThere("behind eight", rules::undo);
        Checks.nothingThere("of a new object", () -> new PairRules().undo());
        Checks.nothingThere("behind a load", () -> Checks.loaded("start a").undo());
        PairRules refused = new PairRules();
        refused.cut(1);
        refused.expand(0);
        Checks.nothingThere("behind calls that changed nothing", refused::undo);
        refused.append(1);
        refused.save(0);
        refused.restore(0);
        Checks.nothingThere("behind a restore", refused::undo);
    }

    private static void promises39And40SavedStates() {
        Doc.says("Promise 39", "Saves everything that undoing restores, in place of what was saved in this slot.");
        for (int slot = 0; slot < 2; slot++) {
            PairRules rules = busy();
            String rows = Edges.rows(rules) + Edges.numbers(rules) + Checks.accounts(rules) + rules.digest();
            rules.save(slot);
            Checks.feed(rules, "end b;");
            rules.play();
            rules.step(9);
            rules.set(4, 2);
            rules.set(5, 0);
            rules.set(6, 1);
            rules.cut(2);
            rules.report();
            Checks.load(rules, "x");
            Checks.feed(rules, "four");
            rules.restore(slot);
            Checks.due("as saved", Edges.rows(rules) + Edges.numbers(rules) + Checks.accounts(rules) + rules.digest(), rows);
            Checks.due("no gaps", rules.gap() * 1000 + rules.rulesGap(), 0);
            Checks.due("the buffer is not saved", rules.feed(0, 0, 0, 0, 0), 4);
            Checks.due("nor the error position", rules.errorPosition(), 0);
            rules.append(1);
            rules.save(slot);
            rules.cut(3);
            rules.restore(slot);
            Checks.due("in place of what was saved", rules.size(0), 8);
        }
        Doc.says("Promise 39", "@param slot 0 or 1. @return SIZE.");
        PairRules rules = Checks.loaded("rule abc;start(0)(0)");
        Checks.due("SIZE in the slot 0", rules.save(0), 5);
        rules.append(3);
        Checks.due("SIZE in the slot 1", rules.save(1), 6);
        Checks.due("the slot 0 for itself", rules.restore(0), 5);
        Checks.due("the slot 1 for itself", rules.restore(1), 6);
        Doc.says("Promise 39", "@throws IllegalArgumentException if slot is out of range");
        Edges.outside("save", 0, 1, rules::save);
        Doc.says("Promise 40", "Brings back what was saved in a slot, which stays; nothing can be undone afterwards.");
        PairRules other = Checks.loaded("start ab");
        other.append(2);
        other.save(0);
        other.append(3);
        other.restore(0);
        Checks.due("nothing can be undone", other.size(11), 0);
        Checks.nothingThere("nothing can be undone", other::undo);
        other.append(4);
        other.append(5);
        Checks.due("it stays", other.restore(0) * 10 + other.size(11), 30);
        Checks.due("it stays", other.restore(0), 3);
        Doc.says("Promise 40", "@param slot 0 or 1. @return SIZE then.");
        other.cut(1);
        other.save(1);
        Checks.due("of the slot 0", other.restore(0), 3);
        Checks.due("of the slot 1", other.restore(1), 2);
        Doc.says("Promise 40", "@throws IllegalArgumentException if slot is out of range.");
        Edges.outside("restore", 0, 1, other::restore);
        PairRules none = new PairRules();
        for (int slot : Edges.beyond(0, 1)) {
            Checks.badArgument("restore without anything saved", () -> none.restore(slot));
        }
        Doc.says("Promise 40", "@throws NoSuchElementException if nothing was saved there");
        Checks.nothingThere("restore 0", () -> none.restore(0));
        Checks.nothingThere("restore 1", () -> none.restore(1));
        none.save(1);
        Checks.nothingThere("the other slot", () -> none.restore(0));
        Checks.due("this one", none.restore(1), 1);
        Checks.load(none, "start ?");
        Checks.due("a load with an error leaves it", none.restore(1), 1);
        Checks.load(none, "start a");
        Checks.nothingThere("a load discards it", () -> none.restore(1));
    }

    public static void main(String[] args) {
        whatChangesAre();
        whatChangesNothing();
        errorCodes();
        everyOtherCallIsRecorded();
        ordersAsTheirCalls();
        endOfAScript();
        eightChanges();
        whatUndoingRestores();
        parametersAhead();
        noSuchValue();
        promise29Step();
        promise30Inline();
        promise31Make();
        promise32Expand();
        promise33Append();
        promise34Cut();
        promise35Set();
        promises36And37Report();
        promise38Undo();
        promises39And40SavedStates();
        Doc.end();
    }
}
