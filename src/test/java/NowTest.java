/** Promises 6 to 19: what an object answers about its rows as they are. */
public final class NowTest {
    private static final String NESTED = "rule ab;rule (0)(0)c;rule xyxyz;start (1)(1)(0)x;least 3;tie 2;inline 0";
    private static final String NESTED_TEXT = "ababcababcabx";

    private NowTest() {
    }

    private static void sizes(String setup, int... due) {
        PairRules rules = Checks.loaded(setup);
        for (int i = 0; i < due.length; i++) {
            Checks.due("6: size " + i + " of " + setup, rules.size(i), due[i]);
        }
    }

    private static void promise6Size() {
        sizes("start a", 1, 1, 0, 1, 2, 0, 1, 0, 0, 1, 0, 0);
        sizes(NESTED, 13, 4, 3, 14, 3, 2, 0, 5, 2, 4, 0, 0);
        sizes("start abcabcxbc", 9, 9, 0, 9, 2, 0, 1, 0, 0, 4, 2, 0);
        // the deepest rule is not used: only what START unfolds to counts
        sizes("rule ab;rule(0)c;rule(1)d;start (0)b;inline 0", 3, 2, 3, 8, 2, 0, 0, 2, 1, 2, 0, 0);
        // a KEPT that is found once is WORTH a step, and what is alone in a BODY is not found
        sizes("rule ab;start abcd;tie 1", 4, 4, 1, 6, 2, 1, 1, 2, 0, 4, 1, 0);
        sizes("rule ab;rule ab;start cd", 2, 2, 2, 6, 2, 0, 1, 2, 0, 2, 0, 0);
        PairRules full = Checks.loaded(Checks.times("rule cd;", 40) + "start ababcd");
        Checks.due("6: without a free number only a KEPT is WORTH it", full.size(10), 1);
        full.expand(39);
        Checks.due("6: with one", full.size(10), 2);
        full = Checks.loaded("start ababab;least 3");
        Checks.due("6: at LEAST", full.size(10), 1);
        full.set(4, 4);
        Checks.due("6: below LEAST", full.size(10), 0);
        PairRules rules = Checks.loaded("start a");
        for (int i = 1; i < 12; i++) {
            rules.append(i);
            Checks.due("6: changes that can be undone", rules.size(11), Math.min(i, 8));
        }
        rules.undo();
        Checks.due("6: one undone", rules.size(11), 7);
        Checks.badArgument("6: size -1", () -> rules.size(-1));
        Checks.badArgument("6: size 12", () -> rules.size(12));
        Checks.badArgument("6: size of the least int", () -> rules.size(Integer.MIN_VALUE));
    }

    private static void promise7IsRule() {
        PairRules rules = Checks.loaded(NESTED);
        for (int i = 0; i < 40; i++) {
            Checks.due("7: isRule " + i, rules.isRule(i) ? 1 : 0, i < 3 ? 1 : 0);
        }
        rules.expand(1);
        Checks.due("7: a number in between is free", rules.isRule(1) ? 1 : 0, 0);
        Checks.due("7: the one behind it is not", rules.isRule(2) ? 1 : 0, 1);
        Checks.badIndex("7: isRule -1", () -> rules.isRule(-1) ? 1 : 0);
        Checks.badIndex("7: isRule 40", () -> rules.isRule(40) ? 1 : 0);
    }

    private static void promise8Rule() {
        PairRules rules = Checks.loaded(NESTED);
        int[][] due = {{2, 3, 2, 1, 5}, {3, 2, 5, 2, 2}, {5, 0, 5, 1, 0}};
        for (int rule = 0; rule < 3; rule++) {
            for (int what = 0; what < 5; what++) {
                Checks.due("8: rule " + rule + " " + what, rules.rule(rule, what), due[rule][what]);
            }
        }
        PairRules unused = Checks.loaded("rule ab;rule(0)(0);rule(0)(1)(1)c;start (1)(0)d");
        Checks.due("8: USES in a BODY that does not come", unused.rule(0, 1), 4);
        Checks.due("8: it comes in START and in a rule of it", unused.rule(0, 4), 3);
        Checks.due("8: what does not come", unused.rule(2, 4), 0);
        Checks.due("8: depth of what does not come", unused.rule(2, 3), 3);
        // a rule of a low number that uses one of a high number
        PairRules crossed = crossed();
        int[][] lowAndHigh = {{2, 1, 10, 2, 1}, {5, 3, 5, 1, 3}};
        for (int what = 0; what < 5; what++) {
            Checks.due("8: a low rule " + what, crossed.rule(0, what), lowAndHigh[0][what]);
            Checks.due("8: a high rule " + what, crossed.rule(1, what), lowAndHigh[1][what]);
        }
        Checks.due("8: it is expanded in the low one", crossed.expand(1), 3);
        Checks.due("8: it is expanded in the low one", Checks.rows(crossed), "(0)abcdcde 0=cdcdecdcde");
        PairRules three = Checks.loaded("rule cd;rule(0)(0)e;rule(1)f;start(2)(1)ab(2)(1)");
        three.expand(0);
        three.make(28, 27);
        Checks.due("8: three crossed rules", Checks.rows(three), "(0)ab(0) 0=(2)(1) 1=cdcde 2=(1)f");
        int[][] crosses = {{3, 2}, {1, 4}, {2, 2}};
        for (int rule = 0; rule < 3; rule++) {
            Checks.due("8: depth of crossed rule " + rule, three.rule(rule, 3), crosses[rule][0]);
            Checks.due("8: comings of crossed rule " + rule, three.rule(rule, 4), crosses[rule][1]);
        }
        Checks.due("8: the deepest SYMBOL of crossed rules", three.size(8), 3);
        PairRules chain = chain();
        Checks.due("8: depth of a chain", chain.rule(39, 3), 40);
        Checks.due("8: LENGTH of a chain", chain.rule(39, 2), 41);
        Checks.due("8: the deepest SYMBOL of START", chain.size(8), 40);
        Checks.due("8: the first rule of a chain comes once", chain.rule(0, 4), 1);
        Checks.badIndex("8: no such rule", () -> rules.rule(3, 0));
        Checks.badIndex("8: no such rule, nor such a what", () -> rules.rule(3, 5));
        Checks.badIndex("8: rule -1", () -> rules.rule(-1, 0));
        Checks.badIndex("8: rule 40", () -> rules.rule(40, 0));
        Checks.badArgument("8: what -1", () -> rules.rule(0, -1));
        Checks.badArgument("8: what 5", () -> rules.rule(0, 5));
    }

    private static PairRules crossed() {
        PairRules rules = Checks.loaded("rule cd;rule(0)(0)e;start(1)(1)ab(1)");
        rules.expand(0);
        rules.make(27, 27);
        Checks.due("8: its rows", Checks.rows(rules), "(0)ab(1) 0=(1)(1) 1=cdcde");
        return rules;
    }

    /** Forty rules, each of the one ahead of it and a letter. */
    private static PairRules chain() {
        StringBuilder setup = new StringBuilder("rule ab;");
        for (int i = 1; i < 40; i++) {
            setup.append("rule(").append(i - 1).append(")c;");
        }
        return Checks.loaded(setup.append("start (39)").toString());
    }

    private static void promise9BodyAt() {
        PairRules rules = Checks.loaded(NESTED);
        int[][] due = {{0, 1}, {26, 26, 2}, {23, 24, 23, 24, 25}};
        for (int rule = 0; rule < 3; rule++) {
            for (int place = 0; place < due[rule].length; place++) {
                Checks.due("9: bodyAt " + rule + " " + place, rules.bodyAt(rule, place), due[rule][place]);
            }
        }
        Checks.badIndex("9: behind the BODY", () -> rules.bodyAt(0, 2));
        Checks.badIndex("9: ahead of the BODY", () -> rules.bodyAt(0, -1));
        Checks.badIndex("9: no such rule", () -> rules.bodyAt(3, 0));
        Checks.badIndex("9: rule -1", () -> rules.bodyAt(-1, 0));
        Checks.badIndex("9: rule 40", () -> rules.bodyAt(40, 0));
        rules.expand(1);
        Checks.badIndex("9: a rule that was removed", () -> rules.bodyAt(1, 0));
    }

    private static void promise10StartAt() {
        PairRules rules = Checks.loaded(NESTED);
        int[] due = {27, 27, 26, 23};
        for (int place = 0; place < 4; place++) {
            Checks.due("10: startAt " + place, rules.startAt(place), due[place]);
        }
        Checks.badIndex("10: behind START", () -> rules.startAt(4));
        Checks.badIndex("10: ahead of START", () -> rules.startAt(-1));
        rules.cut(1);
        Checks.badIndex("10: behind START as it is now", () -> rules.startAt(3));
    }

    private static void promise11LetterAt() {
        PairRules rules = Checks.loaded(NESTED);
        for (int place = 0; place < 13; place++) {
            Checks.due("11: letterAt " + place, rules.letterAt(place), NESTED_TEXT.charAt(place) - 'a');
        }
        Checks.badIndex("11: behind the TEXT", () -> rules.letterAt(13));
        Checks.badIndex("11: ahead of the TEXT", () -> rules.letterAt(-1));
        Checks.badIndex("11: the greatest int", () -> rules.letterAt(Integer.MAX_VALUE));
        Checks.due("11: the text of a chain", Checks.text(chain()), "ab" + Checks.times("c", 39));
    }

    private static void promise12SymbolOf() {
        PairRules rules = Checks.loaded(NESTED);
        int[] due = {0, 0, 0, 0, 0, 1, 1, 1, 1, 1, 2, 2, 3};
        for (int place = 0; place < 13; place++) {
            Checks.due("12: symbolOf " + place, rules.symbolOf(place), due[place]);
        }
        Checks.badIndex("12: behind the TEXT", () -> rules.symbolOf(13));
        Checks.badIndex("12: ahead of the TEXT", () -> rules.symbolOf(-1));
    }

    private static void promise13Letters() {
        PairRules rules = Checks.loaded(NESTED);
        int[] due = new int[26];
        for (char letter : NESTED_TEXT.toCharArray()) {
            due[letter - 'a']++;
        }
        for (int letter = 0; letter < 26; letter++) {
            Checks.due("13: letters " + letter, rules.letters(letter), due[letter]);
        }
        rules.append(0);
        rules.append(25);
        Checks.due("13: as it is now", rules.letters(0) * 10 + rules.letters(25), 61);
        rules.cut(4);
        Checks.due("13: as it is now", rules.letters(0) * 10 + rules.letters(1), 54);
        Checks.due("13: the last letter", Checks.loaded("start zzaz").letters(25), 3);
        Checks.badArgument("13: letters -1", () -> rules.letters(-1));
        Checks.badArgument("13: letters 26", () -> rules.letters(26));
    }

    private static void promise14Account() {
        // TEXT xyxyabxyab: the step makes xy, then ab and (xy)(ab) where the rule ab is kept
        PairRules rules = Checks.loaded("rule gh;rule ef(0);start xyxyabxyab(1)");
        Checks.due("14: at first", Checks.accounts(rules), "0 0 0 0 0 0 0 0 0");
        rules.set(6, 0);
        rules.step(1);
        Checks.due("14: a step", Checks.accounts(rules), "1 1 0 0 0 3 0 0 0");
        rules.make(0, 1);
        Checks.due("14: a make", Checks.accounts(rules), "1 2 0 0 0 5 0 0 0");
        rules.inline();
        Checks.due("14: inlined", Checks.accounts(rules), "1 2 2 0 0 5 0 0 0");
        Checks.due("14: rows", Checks.rows(rules), "(2)(2)(3)(2)(3)efgh 2=xy 3=ab");
        rules.expand(3);
        Checks.due("14: expanded", Checks.accounts(rules), "1 2 2 0 1 5 0 0 0");
        rules.append(4);
        rules.append(4);
        Checks.due("14: appended", Checks.accounts(rules), "1 2 2 0 1 5 2 0 0");
        rules.cut(9);
        Checks.due("14: cut", Checks.accounts(rules), "1 2 2 0 1 5 2 9 1");
        Checks.due("14: rows", Checks.rows(rules), "(2)(2)abx 2=xy");
        PairRules unused = Checks.loaded("rule ab;rule(0)c;start de");
        unused.inline();
        Checks.due("14: one inlined, one removed", Checks.accounts(unused), "0 0 1 1 0 0 0 0 0");
        PairRules kept = Checks.loaded("rule ab;rule cd(0);start abe(0)(1)(1)");
        kept.step(5);
        Checks.due("14: a KEPT is not made", Checks.accounts(kept), "1 0 0 0 0 1 0 0 0");
        Checks.badArgument("14: account -1", () -> rules.account(-1));
        Checks.badArgument("14: account 9", () -> rules.account(9));
    }

    private static void promise15And16Gaps() {
        PairRules rules = Checks.loaded(NESTED);
        int gaps = 0;
        for (int i = 0; i < 20; i++) {
            rules.step(2);
            rules.append(i);
            rules.make(rules.startAt(0), rules.size(1) > 1 ? rules.startAt(1) : 0);
            rules.cut(1 + i % 3);
            rules.expand(i % 4);
            rules.inline();
            if (i % 5 == 4) {
                rules.undo();
            }
            gaps += Math.abs(rules.gap()) + Math.abs(rules.rulesGap());
            Checks.due("15: the text has its length", Checks.text(rules).length(), rules.size(0));
        }
        Checks.due("15, 16: gaps", gaps, 0);
    }

    private static void promise17Ratio() {
        double due = 14.0 / 13.0;
        Checks.due("17: ratio", Double.toString(Checks.loaded(NESTED).ratio()), Double.toString(due));
        Checks.due("17: ratio of one letter", Double.toString(new PairRules().ratio()), "1.0");
        PairRules rules = Checks.loaded("rule abc;start (0)(0)(0)");
        Checks.due("17: no division of integers", Double.toString(rules.ratio()), Double.toString(6.0 / 9.0));
    }

    private static void promise18MeanBits() {
        Checks.due("18: meanBits", Checks.loaded(NESTED).meanBits(), Float.floatToIntBits(13.0f / 4.0f));
        for (int letters = 1; letters <= 400; letters += 7) {
            for (int symbols = 1; symbols <= 9; symbols++) {
                if (letters < 3 * symbols) {
                    continue;
                }
                // all SYMBOLS but the last one have one letter; that one is a rule of the others
                int longest = letters - symbols + 1;
                String body = Checks.times("b", longest);
                if (14 + longest + symbols > 600 || longest < 2) {
                    continue;
                }
                PairRules rules = Checks.loaded("rule " + body + ";start " + Checks.times("a", symbols - 1) + "(0)");
                Checks.due("18: meanBits of " + letters + " by " + symbols, rules.meanBits(),
                    Float.floatToIntBits((float) letters / (float) symbols));
            }
        }
        Checks.due("18: a mean of 1", new PairRules().meanBits(), 0x3f800000);
    }

    private static void promise19Digest() {
        Checks.due("19: of a", new PairRules().digest(), 32);
        String[] texts = {"z", "ab", "zyxwvutsrqponmlkjihgfedcba", Checks.times("zq", 200)};
        for (String text : texts) {
            long due = 1;
            for (char letter : text.toCharArray()) {
                due = due * 31 + (letter - 'a' + 1);
            }
            PairRules rules = Checks.loaded("start " + text);
            Checks.due("19: of " + text, rules.digest(), due);
            rules.step(50);
            Checks.due("19: steps leave it", rules.digest(), due);
        }
    }

    public static void main(String[] args) {
        promise6Size();
        promise7IsRule();
        promise8Rule();
        promise9BodyAt();
        promise10StartAt();
        promise11LetterAt();
        promise12SymbolOf();
        promise13Letters();
        promise14Account();
        promise15And16Gaps();
        promise17Ratio();
        promise18MeanBits();
        promise19Digest();
        Checks.end();
    }
}
