import java.util.ArrayDeque;
import java.util.ArrayList;
import java.util.Comparator;
import java.util.List;
import java.util.NoSuchElementException;
import java.util.TreeMap;

/**
 * The document again, written with the whole Java library and as plainly as can be: rows are lists,
 * texts are unfolded by recursion, every pair is looked for by itself. Only tests use it.
 */
final class NaiveRules {
    private static final class State {
        List<Integer> start = new ArrayList<>();
        TreeMap<Integer, List<Integer>> rules = new TreeMap<>();
        String told = "";
        int[] numbers = {2, 0, 1};
        int[] accounts = new int[9];
        int rulesAtFirst;

        State copy() {
            State copy = new State();
            copy.start = new ArrayList<>(start);
            rules.forEach((rule, body) -> copy.rules.put(rule, new ArrayList<>(body)));
            copy.told = told;
            copy.numbers = numbers.clone();
            copy.accounts = accounts.clone();
            copy.rulesAtFirst = rulesAtFirst;
            return copy;
        }

        List<List<Integer>> rows() {
            List<List<Integer>> rows = new ArrayList<>();
            rows.add(start);
            rows.addAll(rules.values());
            return rows;
        }

        String unfold(int symbol) {
            return symbol < 26 ? "" + (char) ('a' + symbol) : unfold(rules.get(symbol - 26));
        }

        String unfold(List<Integer> row) {
            StringBuilder text = new StringBuilder();
            for (int symbol : row) {
                text.append(unfold(symbol));
            }
            return text.toString();
        }

        int total() {
            return rows().stream().mapToInt(List::size).sum();
        }

        int uses(int rule) {
            return (int) rows().stream().flatMap(List::stream).filter(s -> s == rule + 26).count();
        }

        int depth(int symbol) {
            return symbol < 26 ? 0 : 1 + depth(rules.get(symbol - 26));
        }

        int depth(List<Integer> row) {
            return row.stream().mapToInt(this::depth).max().orElse(0);
        }

        int comings(int rule, List<Integer> row) {
            int comings = 0;
            for (int symbol : row) {
                comings += symbol == rule + 26 ? 1 : 0;
                comings += symbol >= 26 ? comings(rule, rules.get(symbol - 26)) : 0;
            }
            return comings;
        }

        int free() {
            int rule = 0;
            while (rules.containsKey(rule)) {
                rule++;
            }
            return rule < 40 ? rule : -1;
        }

        int kept(int a, int b) {
            for (int rule : rules.keySet()) {
                if (rules.get(rule).equals(List.of(a, b))) {
                    return rule;
                }
            }
            return -1;
        }

        boolean lookedInto(int row, int a, int b) {
            return row == 0 || !rows().get(row).equals(List.of(a, b));
        }

        /** The places of a pair, as row * 1000 + place. */
        List<Integer> places(int a, int b) {
            List<Integer> places = new ArrayList<>();
            for (int row = 0; row < rows().size(); row++) {
                List<Integer> cells = rows().get(row);
                int at = 0;
                while (lookedInto(row, a, b) && at + 1 < cells.size()) {
                    boolean here = cells.get(at) == a && cells.get(at + 1) == b;
                    if (here) {
                        places.add(row * 1000 + at);
                    }
                    at += here ? 2 : 1;
                }
            }
            return places;
        }

        int count(int a, int b) {
            return places(a, b).size();
        }

        boolean worth(int a, int b) {
            int count = count(a, b);
            return kept(a, b) >= 0 ? count >= 1 : count >= numbers[0] && free() >= 0;
        }

        /** {first, second, COUNT, KEPT} of each pair WORTH a step, the BEST one first. */
        List<int[]> worthy() {
            List<int[]> pairs = new ArrayList<>();
            boolean[] seen = new boolean[66 * 66];
            for (List<Integer> row : rows()) {
                for (int i = 0; i + 1 < row.size(); i++) {
                    int a = row.get(i);
                    int b = row.get(i + 1);
                    if (!seen[a * 66 + b] && worth(a, b)) {
                        pairs.add(new int[] {a, b, count(a, b), kept(a, b)});
                    }
                    seen[a * 66 + b] = true;
                }
            }
            Comparator<int[]> order = Comparator.comparingInt(p -> -p[2]);
            if (numbers[1] == 1) {
                order = order.thenComparingInt(p -> places(p[0], p[1]).get(0));
            } else if (numbers[1] == 2) {
                order = order.thenComparingInt(p -> -unfold(List.of(p[0], p[1])).length());
            }
            pairs.sort(order.thenComparingInt(p -> p[0]).thenComparingInt(p -> p[1]));
            return pairs;
        }

        int join(int a, int b) {
            int rule = kept(a, b) >= 0 ? kept(a, b) : free();
            boolean fresh = kept(a, b) < 0;
            for (int row = 0; row < rows().size(); row++) {
                List<Integer> cells = rows().get(row);
                boolean looked = lookedInto(row, a, b);
                for (int at = 0; looked && at + 1 < cells.size(); at++) {
                    if (cells.get(at) == a && cells.get(at + 1) == b) {
                        cells.remove(at);
                        cells.set(at, rule + 26);
                        accounts[5]++;
                    }
                }
            }
            if (fresh) {
                rules.put(rule, new ArrayList<>(List.of(a, b)));
                accounts[1]++;
            }
            return rule;
        }

        int dissolve(int rule) {
            int uses = uses(rule);
            List<Integer> body = rules.remove(rule);
            for (List<Integer> row : rows()) {
                for (int at = row.size() - 1; at >= 0; at--) {
                    if (row.get(at) == rule + 26) {
                        row.remove(at);
                        row.addAll(at, body);
                    }
                }
            }
            return uses;
        }

        int inlineAll() {
            int gone = 0;
            while (true) {
                int found = -1;
                for (int rule : rules.keySet()) {
                    if (found < 0 && uses(rule) < 2) {
                        found = rule;
                    }
                }
                if (found < 0) {
                    return gone;
                }
                gone++;
                accounts[dissolve(found) == 1 ? 2 : 3]++;
            }
        }

        int steps(int most) {
            for (int made = 0; made < most; made++) {
                List<int[]> worthy = worthy();
                if (worthy.isEmpty()) {
                    return made;
                }
                join(worthy.get(0)[0], worthy.get(0)[1]);
                accounts[0]++;
                if (numbers[2] == 1) {
                    inlineAll();
                }
            }
            return most;
        }
    }

    /** An error of a setup or a script. */
    private static final class Wrong extends RuntimeException {
        private static final long serialVersionUID = 1L;
        final int code;
        final int at;

        Wrong(int code, int at) {
            this.code = code;
            this.at = at;
        }
    }

    /** An order: its word, its number or its word of letters, the orders in its brackets. */
    private static final class Order {
        String word;
        int number;
        String letters;
        List<Order> inside;
    }

    /** A script that ends as a whole. */
    private static final class Ended extends RuntimeException {
        private static final long serialVersionUID = 1L;
    }

    private State now = new State();
    private final ArrayDeque<State> past = new ArrayDeque<>();
    private final State[] saved = new State[2];
    private String buffer = "";
    private String report = "";
    private int errorAt = -1;
    private List<String> tokens;
    private List<Integer> tokenAts;
    private int token;
    private int orders;
    private int done;

    NaiveRules() {
        now.start.add(0);
        now.told = "a";
    }

    int feed(int... fours) {
        StringBuilder more = new StringBuilder(buffer);
        for (int four : fours) {
            for (byte one : java.nio.ByteBuffer.allocate(4).putInt(four).array()) {
                if (one != 0) {
                    more.append((char) (one & 255));
                }
            }
        }
        if (more.length() > 600) {
            return -1;
        }
        buffer = more.toString();
        return buffer.length();
    }

    // ---- reading

    private void tokenize() {
        tokens = new ArrayList<>();
        tokenAts = new ArrayList<>();
        var matcher = java.util.regex.Pattern.compile("[a-z]+|[0-9]+|[^ \n]", 32).matcher(buffer);
        while (matcher.find()) {
            tokens.add(matcher.group());
            tokenAts.add(matcher.start());
        }
        tokens.add("");
        tokenAts.add(buffer.length());
        token = 0;
    }

    private String here() {
        return tokens.get(token);
    }

    private boolean isWord() {
        return here().matches("[a-z]+");
    }

    private Wrong wrong(int code) {
        return new Wrong(code, tokenAts.get(token));
    }

    private void pass(String wanted) {
        if (!here().equals(wanted)) {
            throw wrong(1);
        }
        token++;
    }

    private int passNumber(int low, int high) {
        if (!here().matches("[0-9]+")) {
            throw wrong(1);
        }
        int value = here().length() > 6 ? -1 : Integer.parseInt(here());
        if (value < low || value > high) {
            throw wrong(2);
        }
        token++;
        return value;
    }

    private List<Integer> passItems(State goal) {
        List<Integer> row = new ArrayList<>();
        boolean closed = true;
        while (isWord() || here().equals("(")) {
            Wrong tooLong = wrong(5);
            if (isWord()) {
                for (char letter : here().toCharArray()) {
                    row.add(letter - 'a');
                }
                token++;
            } else {
                token++;
                Wrong untold = wrong(4);
                int rule = passNumber(0, 39);
                row.add(26 + rule);
                if (row.size() <= 400 && !goal.rules.containsKey(rule)) {
                    throw untold;
                }
                closed = false;
            }
            if (row.size() > 400 || goal.unfold(row).length() > 400) {
                throw tooLong;
            }
            if (!closed) {
                pass(")");
                closed = true;
            }
        }
        if (row.isEmpty()) {
            throw wrong(1);
        }
        return row;
    }

    private State setup() {
        State goal = new State();
        while (here().equals("rule")) {
            if (goal.rules.size() == 40) {
                throw wrong(5);
            }
            token++;
            List<Integer> body = passItems(goal);
            if (here().equals(";") && body.size() == 1) {
                throw wrong(3);
            }
            pass(";");
            goal.rules.put(goal.rules.size(), body);
        }
        pass("start");
        goal.start = passItems(goal);
        boolean[] told = new boolean[3];
        while (!here().isEmpty()) {
            pass(";");
            int which = List.of("least", "tie", "inline").indexOf(here());
            if (which < 0) {
                throw wrong(1);
            }
            if (told[which]) {
                throw wrong(3);
            }
            told[which] = true;
            token++;
            goal.numbers[which] = passNumber(new int[] {2, 0, 0}[which], new int[] {9, 2, 1}[which]);
        }
        goal.told = goal.unfold(goal.start);
        goal.rulesAtFirst = goal.rules.size();
        return goal;
    }

    int load() {
        try {
            tokenize();
            now = setup();
            errorAt = -1;
            past.clear();
            saved[0] = null;
            saved[1] = null;
            return now.told.length();
        } catch (Wrong e) {
            errorAt = e.at;
            return -10 - e.code;
        } finally {
            buffer = "";
        }
    }

    private List<Order> script(int inside) {
        List<Order> script = new ArrayList<>();
        while (!here().equals(inside > 0 ? ")" : "")) {
            Order order = new Order();
            order.word = here();
            int low = 0;
            int high;
            switch (here()) {
                case "step": low = 1; high = 50; break;
                case "cut": low = 1; high = 400; break;
                case "expand": high = 39; break;
                case "least": low = 2; high = 9; break;
                case "tie": high = 2; break;
                case "mode": high = 1; break;
                case "again": high = 20; break;
                case "inlined": high = -1; break;
                case "make": case "append": high = -2; break;
                default: throw wrong(1);
            }
            if (++orders > 30) {
                throw wrong(5);
            }
            token++;
            if (high >= 0) {
                order.number = passNumber(low, high);
            } else if (high == -2) {
                if (!isWord()) {
                    throw wrong(1);
                }
                if (order.word.equals("make") && here().length() != 2) {
                    throw wrong(4);
                }
                order.letters = tokens.get(token++);
            }
            if (order.word.equals("again")) {
                if (here().equals("(") && inside == 2) {
                    throw wrong(5);
                }
                pass("(");
                order.inside = script(inside + 1);
                pass(")");
            }
            pass(";");
            script.add(order);
        }
        return script;
    }

    int play() {
        try {
            tokenize();
            orders = 0;
            List<Order> script = script(0);
            errorAt = -1;
            remember(now.copy());
            done = 0;
            try {
                run(script);
            } catch (Ended e) {
                // as the document wants it: what was done ahead of that stays
            }
            return done;
        } catch (Wrong e) {
            errorAt = e.at;
            return -10 - e.code;
        } finally {
            buffer = "";
        }
    }

    private void run(List<Order> script) {
        for (Order order : script) {
            if (order.inside != null) {
                for (int i = 0; i < order.number; i++) {
                    run(order.inside);
                }
                continue;
            }
            if (done == 40) {
                throw new Ended();
            }
            int answer = 0;
            switch (order.word) {
                case "step": now.steps(order.number); break;
                case "inlined": now.inlineAll(); break;
                case "make": answer = doMake(order.letters.charAt(0) - 'a', order.letters.charAt(1) - 'a'); break;
                case "expand": answer = doExpand(order.number); break;
                case "cut": answer = doCut(order.number); break;
                case "append":
                    for (char letter : order.letters.toCharArray()) {
                        answer = answer < 0 ? answer : doAppend(letter - 'a');
                    }
                    break;
                default: now.numbers[List.of("least", "tie", "mode").indexOf(order.word)] = order.number;
            }
            if (answer < 0) {
                throw new Ended();
            }
            done++;
        }
    }

    int errorPosition() {
        return errorAt;
    }

    // ---- as it is now

    private static void range(int number, int low, int high) {
        if (number < low || number > high) {
            throw new IllegalArgumentException();
        }
    }

    private static void index(int number, int many) {
        if (number < 0 || number >= many) {
            throw new IndexOutOfBoundsException();
        }
    }

    private String text() {
        return now.unfold(now.start);
    }

    int size(int what) {
        range(what, 0, 11);
        switch (what) {
            case 0: return text().length();
            case 1: return now.start.size();
            case 2: return now.rules.size();
            case 3: return now.total();
            case 7: return now.rules.values().stream().mapToInt(List::size).max().orElse(0);
            case 8: return now.depth(now.start);
            case 9: return (int) text().chars().distinct().count();
            case 10: return now.worthy().size();
            case 11: return past.size();
            default: return now.numbers[what - 4];
        }
    }

    boolean isRule(int rule) {
        index(rule, 40);
        return now.rules.containsKey(rule);
    }

    private List<Integer> body(int rule) {
        if (!now.rules.containsKey(rule)) {
            throw new IndexOutOfBoundsException();
        }
        return now.rules.get(rule);
    }

    int rule(int rule, int what) {
        List<Integer> body = body(rule);
        range(what, 0, 4);
        switch (what) {
            case 0: return body.size();
            case 1: return now.uses(rule);
            case 2: return now.unfold(body).length();
            case 3: return now.depth(rule + 26);
            default: return now.comings(rule, now.start);
        }
    }

    int bodyAt(int rule, int place) {
        index(place, body(rule).size());
        return body(rule).get(place);
    }

    int startAt(int place) {
        index(place, now.start.size());
        return now.start.get(place);
    }

    int letterAt(int place) {
        index(place, text().length());
        return text().charAt(place) - 'a';
    }

    int symbolOf(int place) {
        index(place, text().length());
        int at = 0;
        while (now.unfold(now.start.subList(0, at + 1)).length() <= place) {
            at++;
        }
        return at;
    }

    int letters(int letter) {
        range(letter, 0, 25);
        return (int) text().chars().filter(c -> c == 'a' + letter).count();
    }

    int account(int what) {
        range(what, 0, 8);
        return now.accounts[what];
    }

    int gap() {
        return text().equals(now.told) ? 0 : 1;
    }

    int rulesGap() {
        int[] accounts = now.accounts;
        return now.rulesAtFirst + accounts[1] - accounts[2] - accounts[3] - accounts[4] - now.rules.size();
    }

    double ratio() {
        return (double) now.total() / text().length();
    }

    int meanBits() {
        return Float.floatToIntBits((float) text().length() / now.start.size());
    }

    long digest() {
        long h = 1;
        for (char letter : text().toCharArray()) {
            h = h * 31 + (letter - 'a') + 1;
        }
        return h;
    }

    // ---- pairs

    int count(int a, int b) {
        range(a, 0, 65);
        range(b, 0, 65);
        return now.count(a, b);
    }

    int best(int what) {
        range(what, 0, 4);
        List<int[]> worthy = now.worthy();
        if (worthy.isEmpty()) {
            return what == 4 ? 0 : -1;
        }
        int[] best = worthy.get(0);
        return what < 4 ? best[what] : (int) worthy.stream().filter(p -> p[2] == best[2]).count();
    }

    int why(int a, int b) {
        int count = count(a, b);
        boolean kept = now.kept(a, b) >= 0;
        if (count == 0) {
            return 1;
        }
        if (count < now.numbers[0] && !kept) {
            return 2;
        }
        if (now.free() < 0 && !kept) {
            return 3;
        }
        List<int[]> worthy = now.worthy();
        if (worthy.stream().anyMatch(p -> p[2] > count)) {
            return 4;
        }
        return worthy.get(0)[0] == a && worthy.get(0)[1] == b ? 0 : 5;
    }

    int gain(int a, int b) {
        int count = count(a, b);
        return count == 0 ? 0 : now.kept(a, b) >= 0 ? count : count - 2;
    }

    // ---- what will come

    int stepsLeft() {
        return now.copy().steps(1000);
    }

    int sizeIn(int steps) {
        range(steps, 0, 100);
        State then = now.copy();
        then.steps(steps);
        return then.total();
    }

    private int bestNumber(int which, int low, int high) {
        int best = low;
        int least = 1000000;
        for (int value = low; value <= high; value++) {
            State then = now.copy();
            then.numbers[which] = value;
            then.steps(1000);
            best = then.total() < least ? value : best;
            least = Math.min(least, then.total());
        }
        return best;
    }

    int bestTie() {
        return bestNumber(1, 0, 2);
    }

    int bestLeast() {
        return bestNumber(0, 2, 9);
    }

    int inlinable() {
        return now.copy().inlineAll();
    }

    // ---- changes

    private void remember(State before) {
        past.push(before);
        if (past.size() > 8) {
            past.removeLast();
        }
    }

    private int changed(State before, int answer) {
        if (answer >= 0) {
            remember(before);
        }
        return answer;
    }

    int step(int steps) {
        range(steps, 1, 50);
        return changed(now.copy(), now.steps(steps));
    }

    int inline() {
        return changed(now.copy(), now.inlineAll());
    }

    int make(int a, int b) {
        range(a, 0, 65);
        range(b, 0, 65);
        return changed(now.copy(), doMake(a, b));
    }

    private int doMake(int a, int b) {
        if (a > 25 && !isRule(a - 26) || b > 25 && !isRule(b - 26)) {
            return -7;
        }
        if (now.count(a, b) == 0) {
            return -2;
        }
        return now.kept(a, b) < 0 && now.free() < 0 ? -3 : now.join(a, b);
    }

    int expand(int rule) {
        index(rule, 40);
        return changed(now.copy(), doExpand(rule));
    }

    private int doExpand(int rule) {
        if (!now.rules.containsKey(rule)) {
            return -4;
        }
        now.accounts[4]++;
        return now.dissolve(rule);
    }

    int append(int letter) {
        range(letter, 0, 25);
        return changed(now.copy(), doAppend(letter));
    }

    private int doAppend(int letter) {
        if (text().length() == 400) {
            return -5;
        }
        now.start.add(letter);
        now.told += (char) ('a' + letter);
        now.accounts[6]++;
        return text().length();
    }

    int cut(int many) {
        range(many, 1, 400);
        return changed(now.copy(), doCut(many));
    }

    private int doCut(int many) {
        if (many >= text().length()) {
            return -6;
        }
        int left = many;
        while (left > 0) {
            int symbol = now.start.remove(now.start.size() - 1);
            int length = now.unfold(symbol).length();
            if (length <= left) {
                left -= length;
            } else {
                now.start.addAll(now.rules.get(symbol - 26));
                now.accounts[8]++;
            }
        }
        now.told = now.told.substring(0, now.told.length() - many);
        now.accounts[7] += many;
        return now.start.size();
    }

    int set(int what, int value) {
        range(what, 4, 6);
        range(value, what == 4 ? 2 : 0, what == 4 ? 9 : what == 5 ? 2 : 1);
        remember(now.copy());
        int before = now.numbers[what - 4];
        now.numbers[what - 4] = value;
        return before;
    }

    // ---- reports, undo, saved states

    private String row(List<Integer> row) {
        StringBuilder text = new StringBuilder();
        for (int symbol : row) {
            text.append(symbol < 26 ? "" + (char) ('a' + symbol) : "(" + (symbol - 26) + ")");
        }
        return text.toString();
    }

    int report() {
        StringBuilder text = new StringBuilder(row(now.start));
        now.rules.forEach((rule, body) -> text.append(" " + rule + "=" + row(body)));
        report = text.toString();
        return report.length();
    }

    int reportByte(int i) {
        return i >= 0 && i < report.length() ? report.charAt(i) : -1;
    }

    int undo() {
        now = past.pop();
        return past.size();
    }

    int save(int slot) {
        range(slot, 0, 1);
        saved[slot] = now.copy();
        return now.total();
    }

    int restore(int slot) {
        range(slot, 0, 1);
        if (saved[slot] == null) {
            throw new NoSuchElementException();
        }
        now = saved[slot].copy();
        past.clear();
        return now.total();
    }
}
