/** Promises 36 to 40: reports, undo, saved states. */
public final class ReportsTest {
    private static final int NONE = PairRules.NONE;

    private ReportsTest() {
    }

    private static void promise36And37Report() {
        PairRules rules = new PairRules();
        Checks.due("37: ahead of a report", rules.reportByte(0), NONE);
        Checks.due("36: of a new object", rules.report(), 1);
        Checks.due("37: a letter", rules.reportByte(0), 'a');
        Checks.due("37: behind the report", rules.reportByte(1), NONE);
        Checks.due("37: ahead of the report", rules.reportByte(-1), NONE);
        Checks.due("37: the greatest int", rules.reportByte(Integer.MAX_VALUE), NONE);
        Checks.due("37: the least int", rules.reportByte(Integer.MIN_VALUE), NONE);
        StringBuilder setup = new StringBuilder("rule az;");
        StringBuilder due = new StringBuilder("m(39)(9)(0) 0=az");
        for (int i = 1; i < 40; i++) {
            setup.append("rule(").append(i - 1).append(")b;");
            due.append(' ').append(i).append("=(").append(i - 1).append(")b");
        }
        PairRules chain = Checks.loaded(setup + "start m(39)(9)(0)");
        Checks.due("36: its bytes", chain.report(), due.length());
        Checks.due("36: forty rules", Checks.rows(chain), due.toString());
        chain.expand(38);
        Checks.due("37: the latest report stays", chain.reportByte(due.length() - 1), 'b');
        Checks.due("36: a free number is left out", Checks.rows(chain),
            due.toString().replace(" 38=(37)b 39=(38)b", " 39=(37)bb"));
        chain.undo();
        chain.cut(50);
        Checks.due("37: undo and changes leave the report", chain.reportByte(2), '3');
        PairRules longest = Checks.loaded("rule " + Checks.times("q", 100) + ";"
            + Checks.times("rule(0)(0)(0)(0);", 27) + "start(0)(0)(0)(0)");
        longest.expand(0);
        Checks.due("36: a long report", longest.report(), 400 + 9 * 403 + 18 * 404);
        Checks.due("37: its last byte", longest.reportByte(400 + 9 * 403 + 18 * 404 - 1), 'q');
        Checks.due("37: behind it", longest.reportByte(400 + 9 * 403 + 18 * 404), NONE);
        Checks.due("36: a shorter one in its place", Checks.load(longest, "start xy") * 10 + longest.report(), 22);
        Checks.due("37: nothing of the longer one", longest.reportByte(2), NONE);
    }

    private static String all(PairRules rules) {
        return Checks.rows(rules) + "|" + Checks.accounts(rules) + "|" + rules.size(4) + rules.size(5) + rules.size(6)
            + "|" + Checks.text(rules) + "|" + rules.gap() + rules.rulesGap();
    }

    private static void change(PairRules rules, int i) {
        switch (i % 8) {
            case 0: rules.append(i % 3); break;
            case 1: rules.make(rules.startAt(0), rules.startAt(1)); break;
            case 2: rules.set(4 + i % 3, 2 - i % 3); break;
            case 3: rules.step(1); break;
            case 4: rules.cut(1); break;
            case 5: Checks.play(rules, "append ab;tie 2;step 1;expand 9;"); break;
            case 6: rules.inline(); break;
            default: rules.expand(i % 2); break;
        }
    }

    private static void promise38Undo() {
        PairRules rules = Checks.loaded("rule cd;start abc(0)abcab(0)");
        Checks.nothingThere("38: undo at first", rules::undo);
        for (int i = 0; i < 30; i++) {
            change(rules, i);
        }
        Checks.due("38: changes", rules.size(11), 8);
        for (int i = 1; i <= 8; i++) {
            Checks.due("38: left behind undo " + i, rules.undo(), 8 - i);
            Checks.due("38: changes left", rules.size(11), 8 - i);
        }
        Checks.nothingThere("38: undo behind eight", rules::undo);
        PairRules appends = new PairRules();
        for (int i = 1; i <= 12; i++) {
            appends.append(i);
        }
        String text = "abcdefghijklm";
        for (int i = 1; i <= 8; i++) {
            Checks.due("38: left", appends.undo(), 8 - i);
            Checks.due("38: the most recent one first", Checks.text(appends), text.substring(0, 13 - i));
            Checks.due("38: the account too", appends.account(6), 12 - i);
        }
        Checks.nothingThere("38: no more", appends::undo);
        appends.append(25);
        Checks.due("38: one more", appends.undo(), 0);
        Checks.due("38: as it was", Checks.text(appends), "abcde");
        String first = all(rules);
        String[] befores = new String[8];
        int kept = 0;
        for (int i = 0; kept < 8 && i < 30; i++) {
            String before = all(rules);
            int changes = rules.size(11);
            change(rules, i);
            if (rules.size(11) > changes) {
                befores[kept] = before;
                kept++;
            }
        }
        Checks.feed(rules, "app");
        Checks.load(rules, "end b;start");
        Checks.feed(rules, "append ");
        rules.save(0);
        String saved = all(rules);
        for (int i = kept - 1; i >= 0; i--) {
            rules.undo();
            Checks.due("38: all that undoing restores, " + i, all(rules), befores[i]);
        }
        Checks.due("38: back at first", all(rules), first);
        Checks.due("38: the buffer stays", rules.feed(0, 0, 0, 0, 0), 7);
        Checks.due("38: the error position stays", rules.errorPosition(), 0);
        rules.restore(0);
        Checks.due("38: what was saved stays", all(rules), saved);
    }

    private static void promise39And40Save() {
        PairRules rules = Checks.loaded("rule cd;start abc(0)abcab(0);tie 1");
        Checks.nothingThere("40: nothing saved there", () -> rules.restore(0));
        Checks.due("39: SIZE", rules.save(0), 12);
        Checks.due("39: not recorded", rules.size(11), 0);
        Checks.nothingThere("40: the other slot", () -> rules.restore(1));
        String first = all(rules);
        rules.step(1);
        rules.set(5, 2);
        rules.append(7);
        Checks.due("39: SIZE in the other slot", rules.save(1), 12);
        String second = all(rules);
        Checks.due("39: saving leaves what can be undone", rules.size(11), 3);
        rules.cut(4);
        Checks.due("40: SIZE then", rules.restore(0), 12);
        Checks.due("40: as saved", all(rules), first);
        Checks.due("40: nothing can be undone", rules.size(11), 0);
        Checks.nothingThere("40: undo", rules::undo);
        rules.append(1);
        Checks.due("40: changes behind it can be", rules.undo(), 0);
        Checks.due("40: from the other slot", rules.restore(1), 12);
        Checks.due("40: as saved", all(rules), second);
        rules.cut(5);
        rules.expand(0);
        String third = all(rules);
        Checks.due("39: in place of what was saved", rules.save(0), rules.size(3));
        rules.append(3);
        rules.restore(0);
        Checks.due("40: as saved last", all(rules), third);
        rules.append(3);
        rules.restore(0);
        Checks.due("40: it stays", all(rules), third);
        rules.restore(1);
        Checks.due("40: the other one too", all(rules), second);
        Checks.badArgument("39: save -1", () -> rules.save(-1));
        Checks.badArgument("39: save 2", () -> rules.save(2));
        Checks.badArgument("40: restore -1", () -> rules.restore(-1));
        Checks.badArgument("40: restore 2", () -> rules.restore(2));
        PairRules other = new PairRules();
        Checks.badArgument("40: a slot that there is not, ahead of nothing there", () -> other.restore(2));
        Checks.feed(other, "app");
        other.save(0);
        Checks.due("39: the buffer is not saved", other.restore(0) * 10 + other.feed(0, 0, 0, 0, 0), 13);
    }

    public static void main(String[] args) {
        promise36And37Report();
        promise38Undo();
        promise39And40Save();
        Checks.end();
    }
}
