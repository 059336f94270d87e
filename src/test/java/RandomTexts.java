import java.util.Random;

/** Makes setups and scripts, most of them good ones, from seeds. */
final class RandomTexts {
    private final Random random;

    RandomTexts(Random random) {
        this.random = random;
    }

    private boolean once(int many) {
        return random.nextInt(many) == 0;
    }

    private String word(int most, int alphabet) {
        StringBuilder word = new StringBuilder();
        for (int left = 1 + random.nextInt(most); left > 0; left--) {
            word.append((char) ('a' + random.nextInt(alphabet)));
        }
        return word.toString();
    }

    private String items(int most, int longest, int rules, int alphabet) {
        StringBuilder items = new StringBuilder();
        for (int left = 1 + random.nextInt(most); left > 0; left--) {
            boolean rule = rules > 0 && random.nextBoolean();
            String item = rule ? "(" + random.nextInt(rules) + ")" : word(longest, alphabet);
            items.append(once(3) ? " " : "").append(item);
        }
        return items.append(once(4) ? "\n" : "").toString();
    }

    private String statements() {
        String[] parts = {";least " + (2 + random.nextInt(8)), ";tie " + random.nextInt(3), "; inline " + random.nextInt(2)};
        StringBuilder text = new StringBuilder();
        for (int i = random.nextInt(4); i > 0; i--) {
            text.append(parts[random.nextInt(3)]);
        }
        return text.toString();
    }

    /** Rules by rules, of which longer ones soon unfold to too many letters. */
    String setup() {
        StringBuilder text = new StringBuilder();
        int alphabet = 1 + random.nextInt(once(5) ? 26 : 4);
        int rules = once(3) ? 0 : random.nextInt(once(4) ? 42 : 8);
        int longest = rules > 10 ? 1 : 1 + random.nextInt(5);
        for (int i = 0; i < rules; i++) {
            String body = once(4) ? items(3, longest, i, alphabet) : word(1, alphabet) + items(2, longest, once(2) ? i : 0, alphabet);
            text.append("rule ").append(body).append(';');
        }
        text.append("start ").append(items(8, once(3) ? 80 : 12, rules, alphabet)).append(statements());
        return hurt(text.toString());
    }

    /** Nearly as many rules as there are numbers, most of them of two SYMBOLS, so that some are alike. */
    String crowdedSetup() {
        int alphabet = 1 + random.nextInt(4);
        int rules = 34 + random.nextInt(7);
        StringBuilder text = new StringBuilder();
        for (int i = 0; i < rules; i++) {
            boolean nests = i > 0 && once(3);
            text.append("rule ").append(nests ? "(" + random.nextInt(Math.min(i, 9)) + ")" : word(1, alphabet));
            text.append(word(once(5) ? 3 : 1, alphabet)).append(';');
        }
        return text.append("start ").append(items(12, 12, rules, alphabet)).append(statements()).toString();
    }

    /** A row of about 400 letters, which often ends inside an item. */
    String fullSetup() {
        int unit = 2 + random.nextInt(100);
        int copies = once(3) ? 0 : Math.min(30, 400 / unit);
        int letters = Math.max(0, 400 - copies * unit - random.nextInt(3));
        String row = "(0)".repeat(copies) + (once(2) ? " " : "") + "b".repeat(letters);
        String[] ends = {"(0)", "(0)", "(1)", "(40)", "()", "c", ""};
        for (int i = random.nextInt(4); i > 0; i--) {
            row += ends[random.nextInt(ends.length)];
        }
        String head = "rule " + "a".repeat(unit) + (once(3) ? ";rule " : ";start ");
        String whole = head + row.substring(0, row.length() - (once(2) ? Math.min(2, row.length()) : 0));
        return hurt(whole + (once(2) ? ";start(1)" : statements()));
    }

    private String order(int nested) {
        switch (random.nextInt(12)) {
            case 0: case 1: return "step " + (1 + random.nextInt(once(4) ? 51 : 3));
            case 2: return "inlined";
            case 3: return "make " + word(1, 3) + word(1, 3);
            case 4: return "expand " + random.nextInt(once(3) ? 41 : 4);
            case 5: case 6: return "append " + word(once(9) ? 90 : 6, 1 + random.nextInt(4));
            case 7: return "cut " + (1 + random.nextInt(once(4) ? 401 : 4));
            case 8: return "least " + (2 + random.nextInt(3));
            case 9: return "tie " + random.nextInt(3);
            case 10: return "mode " + random.nextInt(2);
            default: return "again " + random.nextInt(once(3) ? 22 : 4) + "(" + orders(once(2) ? 3 : 2, nested + 1) + ")";
        }
    }

    private String orders(int most, int nested) {
        StringBuilder text = new StringBuilder();
        for (int left = random.nextInt(nested > 4 ? 1 : most + 1); left > 0; left--) {
            text.append(order(nested)).append(once(3) ? " ;" : ";").append(once(4) ? " " : "");
        }
        return text.toString();
    }

    String script() {
        return hurt(orders(once(6) ? 33 : 6, 0));
    }

    /** Leaves most texts as they are; damages some at one place. */
    private String hurt(String text) {
        if (!once(4) || text.isEmpty()) {
            return text;
        }
        int at = random.nextInt(text.length());
        String[] parts = {"", ";", "(", ")", " ", "#", "00", "a", "\u00e9", "rule", " 7", "A", "1234567"};
        String part = parts[random.nextInt(parts.length)];
        return text.substring(0, at) + part + text.substring(at + random.nextInt(2));
    }
}
