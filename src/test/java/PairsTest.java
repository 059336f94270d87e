/** Promises 20 to 28: pairs, and what will come. */
public final class PairsTest {
    private static final int NONE = PairRules.NONE;
    private static final String FORTY = Checks.times("rule yz;", 40);

    private PairsTest() {
    }

    private static int symbol(char sign) {
        return sign >= 'a' ? sign - 'a' : sign - '0' + 26;
    }

    /** A pair is told as two signs: letters, or digits for the rules 0 to 9. */
    private static void count(String setup, String pair, int due) {
        PairRules rules = Checks.loaded(setup);
        Checks.due("20: count of " + pair + " in " + setup, rules.count(symbol(pair.charAt(0)), symbol(pair.charAt(1))), due);
    }

    private static void promise20Count() {
        count("start abcab", "ab", 2);
        count("start abcab", "ba", 0);
        count("start ab", "ab", 1);
        count("start a", "aa", 0);
        count("start aa", "aa", 1);
        count("start aaa", "aa", 1);
        count("start aaaa", "aa", 2);
        count("start aaaaa", "aa", 2);
        count("start aaabaaaa", "aa", 3);
        count("start abaabaaab", "aa", 2);
        count("start aabb", "bb", 1);
        count("start aabb", "ab", 1);
        count("rule ab;start abab", "ab", 2);
        count("rule abab;start ab", "ab", 3);
        count("rule aaa;rule aa;start aaaa(0)", "aa", 3);
        // a row's end and the next row's start are no pair
        count("rule bca;rule bab;start a", "ab", 1);
        // a BODY that is another pair alone is not this pair either; but START may be a pair alone
        count("rule ab;rule ab;start cab", "ab", 1);
        count("rule ab;rule c(0)(0);start(0)(0)(0)(0)", "00", 3);
        count("rule ab;start(0)(0)(0)", "00", 1);
        count("rule ab;start(0)c(0)c", "0c", 2);
        count("rule ab;start(0)c(0)c", "c0", 1);
        count("start abab", "02", 0);
        PairRules rules = new PairRules();
        Checks.due("20: rules that there are not", rules.count(65, 65), 0);
        Checks.badArgument("20: count -1 0", () -> rules.count(-1, 0));
        Checks.badArgument("20: count 66 0", () -> rules.count(66, 0));
        Checks.badArgument("20: count 0 -1", () -> rules.count(0, -1));
        Checks.badArgument("20: count 0 66", () -> rules.count(0, 66));
    }

    private static void best(String setup, int... due) {
        PairRules rules = Checks.loaded(setup);
        for (int what = 0; what < 5; what++) {
            Checks.due("21: best " + what + " of " + setup, rules.best(what), due[what]);
        }
    }

    private static void promise21Best() {
        best("start a", NONE, NONE, NONE, NONE, 0);
        best("start abcd", NONE, NONE, NONE, NONE, 0);
        best("start cdabab", 0, 1, 2, NONE, 1);
        best("start ababab;least 3", 0, 1, 3, NONE, 1);
        best("start ababab;least 4", NONE, NONE, NONE, NONE, 0);
        best("start cdcdcdabab;tie 1", 2, 3, 3, NONE, 1);
        // a KEPT needs but one place, and is no better by that
        best("rule ab;start abc", 0, 1, 1, 0, 1);
        best("rule ab;start abxcdcdx", 2, 3, 2, NONE, 1);
        best("rule cd;rule ab;rule ab;start cabxabx;least 2", 0, 1, 2, 1, 2);
        best("rule ab;start a;least 2", NONE, NONE, NONE, NONE, 0);
        // ties: the least first SYMBOL, then the least second one
        best("start cdxcdyabzab", 0, 1, 2, NONE, 2);
        best("start adxadyabzab", 0, 1, 2, NONE, 2);
        best("start bazbaxacyac", 0, 2, 2, NONE, 2);
        // the first place: START ahead of the BODIES, these by numbers, in a row the leftmost
        best("start cdxcdyabzab;tie 1", 2, 3, 2, NONE, 2);
        best("rule abx;rule aby;start cdzcdw;tie 1", 2, 3, 2, NONE, 2);
        best("rule cdx;rule abycd;start zab;tie 1", 0, 1, 2, NONE, 2);
        best("rule efx;rule abyef;rule cdzab;start wcd;tie 1", 2, 3, 2, NONE, 3);
        best("rule xef;rule yabef;rule zabq;start w;tie 1", 4, 5, 2, NONE, 2);
        best("rule ab;start cdxcdyabzab;tie 1", 2, 3, 2, NONE, 2);
        best("rule cd;start cdxcdyabzab;tie 0", 0, 1, 2, NONE, 2);
        best("start babaxab;tie 1;least 2", 1, 0, 2, NONE, 2);
        best("start aaaxaabb;tie 1", 0, 0, 2, NONE, 1);
        // LENGTH of both, then as by 0
        best("rule efg;start abxab(0)y(0)y;tie 2", 26, 24, 2, NONE, 2);
        best("rule efg;rule hijk;start m(0)xm(0)n(1)yn(1)z;tie 2", 13, 27, 2, NONE, 2);
        best("rule efg;start b(0)xb(0)ya(0)za(0);tie 2", 0, 26, 2, NONE, 2);
        best("rule efg;rule hij;start a(1)xa(1)ya(0)za(0);tie 2", 0, 26, 2, NONE, 2);
        best("rule efg;rule hi;start ab(0)xabyc(0)z;tie 2", 0, 1, 2, NONE, 1);
        // without a free number only a KEPT is WORTH a step
        best(FORTY + "start ababab", NONE, NONE, NONE, NONE, 0);
        best(FORTY + "start abababyz", 24, 25, 1, 0, 1);
        PairRules rules = new PairRules();
        Checks.badArgument("21: best -1", () -> rules.best(-1));
        Checks.badArgument("21: best 5", () -> rules.best(5));
        Checks.badArgument("21: best 5 with a BEST pair", () -> Checks.loaded("start abab").best(5));
    }

    private static void why(String setup, String pair, int due) {
        PairRules rules = Checks.loaded(setup);
        Checks.due("22: why of " + pair + " in " + setup, rules.why(symbol(pair.charAt(0)), symbol(pair.charAt(1))), due);
    }

    private static void promise22Why() {
        why("start abab", "ab", 0);
        why("start abab", "ba", 2);
        why("start abab", "bb", 1);
        why("rule ab;start c", "ab", 1);
        why("rule ab;start cab", "ab", 0);
        why("start ababab;least 4", "ab", 2);
        why(FORTY + "start abab", "ab", 3);
        why(FORTY + "start abab;least 3", "ab", 2);
        why(FORTY + "start abababyz", "yz", 0);
        why("start abababcdcd", "cd", 4);
        why("start abababcdcd", "ab", 0);
        why("start abxabcdycdz", "cd", 5);
        why("start abxabcdycdz;tie 1", "cd", 5);
        why("start cdxcdyabzab;tie 1", "cd", 0);
        why("start cdxcdyabzab;tie 1", "ab", 5);
        why("start adxadyabzab", "ad", 5);
        why("rule efg;start abxab(0)y(0)y;tie 2", "ab", 5);
        why("rule efg;start abxab(0)y(0)y;tie 2", "0y", 0);
        why("rule ab;start abcdcd", "ab", 4);
        why("start a", "33", 1);
        PairRules rules = new PairRules();
        Checks.due("22: rules that there are not", rules.why(65, 65), 1);
        Checks.badArgument("22: why -1 0", () -> rules.why(-1, 0));
        Checks.badArgument("22: why 66 0", () -> rules.why(66, 0));
        Checks.badArgument("22: why 0 -1", () -> rules.why(0, -1));
        Checks.badArgument("22: why 0 66", () -> rules.why(0, 66));
    }

    private static void gain(String setup, String pair, int due) {
        PairRules rules = Checks.loaded(setup);
        int a = symbol(pair.charAt(0));
        int b = symbol(pair.charAt(1));
        Checks.due("23: gain of " + pair + " in " + setup, rules.gain(a, b), due);
        int before = rules.size(3);
        if (rules.make(a, b) >= 0) {
            Checks.due("23: the make of " + pair + " in " + setup, before - rules.size(3), due);
        }
    }

    private static void promise23Gain() {
        gain("start ab", "ab", -1);
        gain("start abab", "ab", 0);
        gain("start ababab", "ab", 1);
        gain("start abab", "bb", 0);
        gain("start aaaaa", "aa", 0);
        gain("rule ab;start abab", "ab", 2);
        gain("rule ab;start abc", "ab", 1);
        gain("rule ab;start c", "ab", 0);
        gain("rule ab;start c(0)(0)", "00", -1);
        gain(FORTY + "start ababab", "ab", 1);
        gain(FORTY + "start ab", "ab", -1);
        gain(FORTY + "start yzyz", "yz", 2);
        gain("start a", "33", 0);
        PairRules rules = new PairRules();
        Checks.badArgument("23: gain -1 0", () -> rules.gain(-1, 0));
        Checks.badArgument("23: gain 66 0", () -> rules.gain(66, 0));
        Checks.badArgument("23: gain 0 -1", () -> rules.gain(0, -1));
        Checks.badArgument("23: gain 0 66", () -> rules.gain(0, 66));
    }

    private static void promise24And25Steps() {
        String[] setups = {"start a", "start abab", "start abcabcabc", "start abababababababab",
            "rule ab;start abc(0)", "start abcdabcdabcd;inline 0", "start aabbaabbaabb;least 3", "start aabbaabbaabb;least 4",
            FORTY + "start ababab", "rule ab;rule(0)c;start ab(1)d;tie 2"};
        int[] steps = {0, 1, 2, 3, 1, 3, 3, 0, 0, 1};
        int[][] sizes = {{1, 1, 1}, {4, 4, 4}, {9, 8, 6}, {16, 10, 8, 8}, {6, 5, 5},
            {12, 11, 10, 9}, {12, 11, 10, 7, 7}, {12, 12}, {86, 86, 86}, {8, 6, 6}};
        for (int i = 0; i < setups.length; i++) {
            PairRules rules = Checks.loaded(setups[i]);
            String before = Checks.rows(rules) + Checks.accounts(rules);
            Checks.due("24: stepsLeft of " + setups[i], rules.stepsLeft(), steps[i]);
            for (int j = 0; j < sizes[i].length; j++) {
                Checks.due("25: sizeIn " + j + " of " + setups[i], rules.sizeIn(j), sizes[i][j]);
            }
            Checks.due("25: sizeIn 100", rules.sizeIn(100), sizes[i][sizes[i].length - 1]);
            Checks.due("24, 25: nothing changes", Checks.rows(rules) + Checks.accounts(rules), before);
            Checks.due("24, 25: nothing is recorded", rules.size(11), 0);
            Checks.due("24: as many are made", rules.step(50), steps[i]);
        }
        PairRules later = Checks.loaded("start a");
        Checks.play(later, "append babab;");
        Checks.due("24: the rows as they are now", later.stepsLeft(), 1);
        Checks.due("25: the rows as they are now", later.sizeIn(1), 5);
        later.make(0, 1);
        later.cut(3);
        Checks.due("28: the rows as they are now", later.inlinable(), 1);
        Checks.due("24: the rows as they are now", later.stepsLeft(), 0);
        PairRules unused = Checks.loaded("rule ab;start c(0)");
        Checks.due("25: without a step nothing is inlined", unused.sizeIn(5), 4);
        PairRules rules = new PairRules();
        Checks.badArgument("25: sizeIn -1", () -> rules.sizeIn(-1));
        Checks.badArgument("25: sizeIn 101", () -> rules.sizeIn(101));
    }

    /** The best by trying: sets each value, steps, and undoes both. */
    private static int tried(PairRules rules, int what, int low, int high) {
        int best = low;
        int least = Integer.MAX_VALUE;
        for (int value = low; value <= high; value++) {
            rules.set(what, value);
            int made = 0;
            while (rules.step(50) == 50) {
                made++;
            }
            if (rules.size(3) < least) {
                least = rules.size(3);
                best = value;
            }
            for (int i = 0; i < made + 2; i++) {
                rules.undo();
            }
        }
        return best;
    }

    /** Rules that are found again: without such, a higher LEAST never leaves a smaller SIZE. */
    private static String setup(java.util.Random random, int i) {
        int rules = i % 4;
        StringBuilder setup = new StringBuilder();
        for (int rule = 0; rule < rules; rule++) {
            setup.append("rule ").append(i % 2 == 0 ? "a" : "b").append((char) ('a' + random.nextInt(3))).append(';');
        }
        setup.append("start ");
        for (int j = 8 + random.nextInt(i % 2 == 0 ? 12 : 60); j > 0; j--) {
            boolean rule = rules > 0 && random.nextInt(4) == 0;
            setup.append(rule ? "(" + random.nextInt(rules) + ")" : "" + (char) ('a' + random.nextInt(2 + i % 2)));
        }
        return setup.append(";inline ").append(i % 5 == 0 ? 0 : 1).append(";tie ").append(i % 3).toString();
    }

    private static void promise26And27Best() {
        int[] ties = new int[3];
        int[] leasts = new int[10];
        java.util.Random random = new java.util.Random(5);
        for (int i = 0; i < 300; i++) {
            String setup = setup(random, i);
            PairRules rules = Checks.loaded(setup);
            String before = Checks.rows(rules);
            int tie = rules.bestTie();
            int least = rules.bestLeast();
            Checks.due("26, 27: nothing changes", Checks.rows(rules), before);
            Checks.due("26, 27: nothing is recorded", rules.size(11), 0);
            Checks.due("26, 27: nothing is set", rules.size(4) * 10 + rules.size(5), 20 + i % 3);
            Checks.due("26: bestTie of " + setup, tie, tried(rules, 5, 0, 2));
            Checks.due("27: bestLeast of " + setup, least, tried(rules, 4, 2, 9));
            ties[tie]++;
            leasts[least]++;
        }
        Checks.due("26: every TIE was best once", ties[0] * ties[1] * ties[2] > 0 ? 1 : 0, 1);
        Checks.due("27: some LEASTS were best", leasts[2] * leasts[3] * leasts[4] > 0 ? 1 : 0, 1);
        String nine = "rule aa;rule ba;rule c(0)a;start (2)aababaaba(1)a(2)aba(1)(2)aaaab(0)abb(0)(0)babbab;inline 0;tie 2";
        Checks.due("27: the highest LEAST", Checks.loaded(nine).bestLeast(), 9);
        Checks.due("27: the highest LEAST", tried(Checks.loaded(nine), 4, 2, 9), 9);
        Checks.due("26: of several the lowest one", Checks.loaded("start a;tie 2").bestTie(), 0);
        Checks.due("27: of several the lowest one", Checks.loaded("start a;least 9").bestLeast(), 2);
    }

    private static void promise28Inlinable() {
        String[] setups = {"start a", "rule ab;start (0)(0)", "rule ab;start (0)", "rule ab;start c",
            "rule ab;rule (0)c;start d", "rule ab;rule (0)(0)c;start d", "rule ab;rule (0)(0)c;start (1)d",
            "rule ab;rule (0)(0)c;start (1)(1)(0);inline 0", "rule ab;rule (0)c;start (1)(0);inline 0"};
        int[] due = {0, 0, 1, 1, 2, 2, 1, 0, 1};
        for (int i = 0; i < setups.length; i++) {
            PairRules rules = Checks.loaded(setups[i]);
            String before = Checks.rows(rules) + Checks.accounts(rules);
            Checks.due("28: inlinable of " + setups[i], rules.inlinable(), due[i]);
            Checks.due("28: nothing changes", Checks.rows(rules) + Checks.accounts(rules), before);
            Checks.due("28: nothing is recorded", rules.size(11), 0);
            Checks.due("28: as many are inlined", rules.inline(), due[i]);
        }
    }

    public static void main(String[] args) {
        promise20Count();
        promise21Best();
        promise22Why();
        promise23Gain();
        promise24And25Steps();
        promise26And27Best();
        promise28Inlinable();
        Checks.end();
    }
}
