import java.lang.management.ManagementFactory;

/**
 * A run's calls share one room of 600,000 objects and 7.3 million fields and elements, and nothing
 * in it is given back. An int has 4 bytes, so what a run makes may have 8 bytes a field at the most
 * and is far below that here: 6 million bytes a run are 1.5 million elements.
 */
public final class RoomTest {
    private static final long MOST_OF_A_RUN = 6000000;
    private static final long MOST_OF_A_NEW_OBJECT = 400000;
    private static final int CALLS = 512;

    private RoomTest() {
    }

    private static long made() {
        com.sun.management.ThreadMXBean bean = (com.sun.management.ThreadMXBean) ManagementFactory.getThreadMXBean();
        return bean.getThreadAllocatedBytes(Thread.currentThread().getId());
    }

    private static int call(PairRules rules, int i) {
        switch (i % 16) {
            case 0: return rules.bestLeast();
            case 1: return rules.step(1);
            case 2: return rules.expand(i % 40);
            case 3: return rules.report();
            case 4: return rules.save(i / 16 % 2);
            case 5: return rules.cut(1);
            case 6: return rules.append(i % 26);
            case 7: return rules.stepsLeft();
            case 8: return rules.make(rules.startAt(0), 0);
            case 9: return rules.feed(0x61707065, 0x6e642061, 0x6263643b, 0x65787061, 0x6e642033);
            case 10: return rules.feed(0x3b637574, 0x20323b73, 0x74657020, 0x323b6d61, 0x6b652061) + rules.feed(0x623b0000, 0, 0, 0, 0);
            case 11: return rules.play();
            case 12: return rules.undo();
            case 13: return rules.bestTie() + rules.inlinable() + rules.size(8) + rules.rule(2, 4);
            case 14: return rules.letters(3) + rules.gap() + rules.symbolOf(1) + (int) rules.digest();
            default: return i % 64 == 63 ? rules.restore(0) : rules.inline();
        }
    }

    private static long makes(String setup) {
        PairRules warm = Checks.loaded(setup);
        for (int i = 0; i < 16; i++) {
            tryCall(warm, i);
        }
        long before = made();
        PairRules rules = Checks.loaded(setup);
        for (int i = 0; i < CALLS; i++) {
            tryCall(rules, i);
        }
        return made() - before;
    }

    private static void tryCall(PairRules rules, int i) {
        try {
            call(rules, i);
        } catch (IndexOutOfBoundsException | java.util.NoSuchElementException e) {
            // a rule that there is not, or nothing to undo: of no matter here
        }
    }

    public static void main(String[] args) {
        new PairRules();
        long before = made();
        new PairRules();
        long object = made() - before;
        System.out.println("a new object: " + object + " bytes");
        Checks.due("a new object's bytes", object <= MOST_OF_A_NEW_OBJECT ? 1 : 0, 1);
        StringBuilder many = new StringBuilder("start ");
        for (int i = 0; i < 390; i++) {
            many.append((char) ('a' + i * i % 7));
        }
        String[] setups = {"start abab", many.toString(), Checks.times("rule ab;", 40) + "start (3)(5)abab",
            "rule " + Checks.times("q", 99) + ";rule q(0);" + Checks.times("rule(1)(1)(1)(1);", 27) + "start(0)(1)(1)(1)"};
        for (String setup : setups) {
            long bytes = makes(setup);
            System.out.println("a run: " + bytes + " bytes");
            Checks.due("a run's bytes with " + setup, bytes <= MOST_OF_A_RUN ? 1 : 0, 1);
        }
        Checks.end();
    }
}
