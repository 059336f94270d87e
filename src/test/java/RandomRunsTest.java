import java.util.Random;

/** Runs of calls from seeds, each answer compared with that of NaiveRules. */
public final class RandomRunsTest {
    private static final int RUNS = Integer.getInteger("runs", 300);
    private static final int FIRST = Integer.getInteger("first", 1);

    private final Random random;
    private final RandomTexts texts;
    private final PairRules real = new PairRules();
    private final NaiveRules naive = new NaiveRules();
    private final StringBuilder told = new StringBuilder();
    private int calls;
    private boolean good = true;

    private RandomRunsTest(long seed) {
        random = new Random(seed);
        texts = new RandomTexts(random);
    }

    private interface Call {
        long answer();
    }

    private static String outcome(Call call) {
        try {
            return Long.toString(call.answer());
        } catch (RuntimeException e) {
            return "throws " + e.getClass().getName();
        }
    }

    private void same(String name, Call ours, Call theirs) {
        if (!good || calls >= 512) {
            return;
        }
        calls++;
        String got = outcome(ours);
        String want = outcome(theirs);
        told.append(name).append(" -> ").append(want).append('\n');
        if (!got.equals(want)) {
            good = false;
            System.out.println(told + "but answered " + got);
        }
        Checks.due(name, got, want);
    }

    private void feed(String text) {
        for (int from = 0; from < text.length(); from += 20) {
            int[] words = new int[5];
            for (int i = 0; i < 20; i++) {
                int one = from + i < text.length() ? text.charAt(from + i) & 255 : 0;
                words[i / 4] = words[i / 4] << 8 | one;
            }
            same("feed of " + text.substring(from, Math.min(from + 20, text.length())),
                () -> real.feed(words[0], words[1], words[2], words[3], words[4]), () -> naive.feed(words));
        }
    }

    private int below(int bound) {
        return random.nextInt(bound);
    }

    private int symbol() {
        int kind = below(20);
        if (kind == 0) {
            return below(70) - 2;
        }
        if (kind < 9) {
            return naive.startAt(below(naive.size(1)));
        }
        return kind < 14 ? below(4) : 26 + below(6);
    }

    /** Two SYMBOLS that often stand one behind the other. */
    private int[] pair() {
        int many = naive.size(1);
        if (many < 2 || below(2) == 0) {
            return new int[] {symbol(), symbol()};
        }
        int place = below(many - 1);
        return new int[] {naive.startAt(place), naive.startAt(place + 1)};
    }

    private void ask() {
        int[] pair = pair();
        int a = pair[0];
        int b = pair[1];
        int rule = below(8) == 0 ? below(44) - 2 : below(6);
        int place = below(4) == 0 ? below(404) - 2 : below(8);
        int what = below(14) - 1;
        switch (below(19)) {
            case 0: same("size " + what, () -> real.size(what), () -> naive.size(what)); break;
            case 1: same("isRule " + rule, () -> real.isRule(rule) ? 1 : 0, () -> naive.isRule(rule) ? 1 : 0); break;
            case 2: same("rule " + rule + " " + what / 2, () -> real.rule(rule, what / 2), () -> naive.rule(rule, what / 2)); break;
            case 3: same("bodyAt " + rule + " " + place, () -> real.bodyAt(rule, place), () -> naive.bodyAt(rule, place)); break;
            case 4: same("startAt " + place, () -> real.startAt(place), () -> naive.startAt(place)); break;
            case 5: same("letterAt " + place, () -> real.letterAt(place), () -> naive.letterAt(place)); break;
            case 6: same("symbolOf " + place, () -> real.symbolOf(place), () -> naive.symbolOf(place)); break;
            case 7: same("letters " + b, () -> real.letters(b), () -> naive.letters(b)); break;
            case 8: same("account " + what, () -> real.account(what), () -> naive.account(what)); break;
            case 9: same("ratio", () -> Double.doubleToLongBits(real.ratio()), () -> Double.doubleToLongBits(naive.ratio())); break;
            case 10: same("meanBits", real::meanBits, naive::meanBits); break;
            case 11: same("digest", real::digest, naive::digest); break;
            case 12: same("count " + a + " " + b, () -> real.count(a, b), () -> naive.count(a, b)); break;
            case 13: same("best " + what / 2, () -> real.best(what / 2), () -> naive.best(what / 2)); break;
            case 14: same("why " + a + " " + b, () -> real.why(a, b), () -> naive.why(a, b)); break;
            case 15: same("gain " + a + " " + b, () -> real.gain(a, b), () -> naive.gain(a, b)); break;
            case 16: same("inlinable", real::inlinable, naive::inlinable); break;
            case 17: same("errorPosition", real::errorPosition, naive::errorPosition); break;
            default: foretell(); break;
        }
    }

    private void foretell() {
        int steps = below(5) == 0 ? below(104) - 2 : below(5);
        same("stepsLeft", real::stepsLeft, naive::stepsLeft);
        same("sizeIn " + steps, () -> real.sizeIn(steps), () -> naive.sizeIn(steps));
        if (below(3) == 0) {
            same("bestTie", real::bestTie, naive::bestTie);
            same("bestLeast", real::bestLeast, naive::bestLeast);
        }
    }

    private void change() {
        int[] pair = pair();
        int a = pair[0];
        int b = pair[1];
        int rule = below(8) == 0 ? below(44) - 2 : below(6);
        int steps = below(6) == 0 ? below(54) - 1 : 1 + below(3);
        int letter = below(12) == 0 ? below(30) - 2 : below(4);
        int many = below(6) == 0 ? below(404) - 1 : 1 + below(6);
        int what = 3 + below(5);
        int value = below(4) == 0 ? below(12) - 1 : below(3);
        int slot = below(12) == 0 ? below(5) - 1 : below(2);
        switch (below(14)) {
            case 0: case 1: same("step " + steps, () -> real.step(steps), () -> naive.step(steps)); break;
            case 2: same("inline", real::inline, naive::inline); break;
            case 3: case 4: same("make " + a + " " + b, () -> real.make(a, b), () -> naive.make(a, b)); break;
            case 5: same("expand " + rule, () -> real.expand(rule), () -> naive.expand(rule)); break;
            case 6: case 7: same("append " + letter, () -> real.append(letter), () -> naive.append(letter)); break;
            case 8: same("cut " + many, () -> real.cut(many), () -> naive.cut(many)); break;
            case 9: same("set " + what + " " + value, () -> real.set(what, value), () -> naive.set(what, value)); break;
            case 10: same("undo", real::undo, naive::undo); break;
            case 11: same("save " + slot, () -> real.save(slot), () -> naive.save(slot)); break;
            case 12: same("restore " + slot, () -> real.restore(slot), () -> naive.restore(slot)); break;
            default:
                feed(texts.script());
                same("play", real::play, naive::play);
                same("errorPosition", real::errorPosition, naive::errorPosition);
                break;
        }
    }

    private void compareAll() {
        same("report", real::report, naive::report);
        if (good && calls < 512) {
            StringBuilder got = new StringBuilder();
            StringBuilder want = new StringBuilder();
            for (int i = -1; naive.reportByte(i) != -1 || i < 0; i++) {
                got.append(real.reportByte(i)).append(' ');
                want.append(naive.reportByte(i)).append(' ');
            }
            same("the report's bytes " + want, () -> got.toString().equals(want.toString()) ? 1 : 0, () -> 1);
            for (int i = 0; i < 9 && good; i++) {
                int what = i;
                same("account " + i, () -> real.account(what), () -> naive.account(what));
                calls--;
            }
            same("gap", real::gap, () -> 0);
            same("rulesGap", real::rulesGap, () -> 0);
            same("digest", real::digest, naive::digest);
            calls -= 4;
        }
    }

    private String setup() {
        switch (below(10)) {
            case 0: case 1: return texts.fullSetup();
            case 2: return texts.crowdedSetup();
            default: return texts.setup();
        }
    }

    private void run() {
        for (int i = below(3); i < 3; i++) {
            if (i > 0) {
                feed(setup());
                same("load", real::load, naive::load);
                same("errorPosition", real::errorPosition, naive::errorPosition);
            }
            for (int j = below(40); j > 0 && good; j--) {
                if (below(3) == 0) {
                    change();
                    compareAll();
                } else {
                    ask();
                }
            }
        }
    }

    public static void main(String[] args) {
        for (int i = 0; i < RUNS; i++) {
            RandomRunsTest test = new RandomRunsTest(FIRST + i);
            test.run();
            if (!test.good) {
                System.out.println("that was the run of the seed " + (FIRST + i));
                break;
            }
        }
        Checks.end();
    }
}
