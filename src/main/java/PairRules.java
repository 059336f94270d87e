import java.util.NoSuchElementException;

/**
 * Rules made of the commonest pair, and inlined when they are used but once: a start row and rules
 * that unfold to a text. What each call does stands in DOC.md, by promises.
 */
public final class PairRules {
    /** There is no such value. */
    public static final int NONE = -1;

    private static final int ALPHABET = 26;
    private static final int RULES = 40;
    private static final int SYMBOLS = ALPHABET + RULES;
    /** The most letters that a row unfolds to, and so the most SYMBOLS that it has. */
    private static final int LONGEST = 400;
    private static final int MOST_BYTES = 600;
    private static final int MOST_ORDERS = 30;
    private static final int MOST_DONE = 40;
    private static final int MOST_NESTED = 2;
    /** Far more than any loop that is held by it needs. */
    private static final int FAR = 1000000;

    private static final int LEAST = 4;
    private static final int TIE = 5;
    private static final int INLINE = 6;

    private static final int STEPS = 0;
    private static final int MADE = 1;
    private static final int INLINED = 2;
    private static final int UNUSED = 3;
    private static final int EXPANDED = 4;
    private static final int PLACES = 5;
    private static final int APPENDED = 6;
    private static final int CUT = 7;
    private static final int OPENED = 8;
    private static final int ACCOUNTS = 9;

    private static final int NO_COUNT = -2;
    private static final int NO_NUMBER = -3;
    private static final int NO_RULE = -4;
    private static final int TOO_LONG = -5;
    private static final int TOO_SHORT = -6;
    private static final int NO_SYMBOL = -7;

    private static final int MISPLACED = 1;
    private static final int OUT_OF_RANGE = 2;
    private static final int TWICE_OR_ALONE = 3;
    private static final int UNTOLD_OR_NOT_TWO = 4;
    private static final int TOO_MANY = 5;

    private final Grammar now = new Grammar();
    /** Where a setup is read to and what will come is tried, so that now stays as it is. */
    private final Grammar trial = new Grammar();
    private final Stepper stepper = new Stepper();
    private final Survey survey = new Survey();
    private final Source source = new Source();
    private final Setup setup = new Setup(source, trial);
    private final Script script = new Script(source);
    private final History history = new History();
    private final Report written = new Report();
    private int errorAt = NONE;

    public PairRules() {
        now.becomeLetterA();
    }

    // ---- texts

    public int feed(int a, int b, int c, int d, int e) {
        int more = source.bytesIn(a) + source.bytesIn(b) + source.bytesIn(c)
            + source.bytesIn(d) + source.bytesIn(e);
        if (!source.hasRoomFor(more)) {
            return NONE;
        }
        source.take(a);
        source.take(b);
        source.take(c);
        source.take(d);
        source.take(e);
        return source.many();
    }

    public int load() {
        boolean good = setup.read();
        source.dropAll();
        if (!good) {
            return failure();
        }
        errorAt = NONE;
        survey.unfold(trial);
        trial.beginWith(survey);
        now.takeFrom(trial);
        history.forgetPast();
        history.forgetSaved();
        return now.textLength();
    }

    public int play() {
        boolean good = script.read();
        if (!good) {
            source.dropAll();
            return failure();
        }
        errorAt = NONE;
        history.remember(now);
        int done = 0;
        int at = script.firstOrder();
        while (done < MOST_DONE && at != NONE && doOrder(at)) {
            done++;
            at = script.orderBehind(at);
        }
        source.dropAll();
        return done;
    }

    public int errorPosition() {
        return errorAt;
    }

    // ---- as it is now

    public int size(int what) throws IllegalArgumentException {
        switch (what) {
            case 0: return now.textLength();
            case 1: return now.startRow().many();
            case 2: return now.manyRules();
            case 3: return now.totalSize();
            case LEAST:
            case TIE:
            case INLINE: return now.number(what);
            case 7: return now.longestBody();
            case 8:
                survey.measure(now);
                return survey.deepestIn(now.startRow());
            case 9:
                survey.unfold(now);
                return survey.unlikeLetters();
            case 10:
                stepper.pairs().readFrom(now);
                return stepper.pairs().manyWorth();
            case 11: return history.manyPast();
            default: throw new IllegalArgumentException();
        }
    }

    public boolean isRule(int rule) throws IndexOutOfBoundsException {
        if (rule < 0 || rule >= RULES) {
            throw new IndexOutOfBoundsException();
        }
        return now.hasRule(rule);
    }

    public int rule(int rule, int what) throws IndexOutOfBoundsException, IllegalArgumentException {
        if (!now.hasRule(rule)) {
            throw new IndexOutOfBoundsException();
        }
        switch (what) {
            case 0: return now.body(rule).many();
            case 1: return now.usesOf(rule);
            case 2: return now.lengthOf(ALPHABET + rule);
            case 3:
                survey.measure(now);
                return survey.depthOf(ALPHABET + rule);
            case 4:
                survey.measure(now);
                return survey.comingsOf(rule);
            default: throw new IllegalArgumentException();
        }
    }

    public int bodyAt(int rule, int place) throws IndexOutOfBoundsException {
        int symbol = now.body(rule).at(place);
        if (symbol == NONE) {
            throw new IndexOutOfBoundsException();
        }
        return symbol;
    }

    public int startAt(int place) throws IndexOutOfBoundsException {
        int symbol = now.startRow().at(place);
        if (symbol == NONE) {
            throw new IndexOutOfBoundsException();
        }
        return symbol;
    }

    public int letterAt(int place) throws IndexOutOfBoundsException {
        if (place < 0 || place >= now.textLength()) {
            throw new IndexOutOfBoundsException();
        }
        return now.letterOfText(place);
    }

    public int symbolOf(int place) throws IndexOutOfBoundsException {
        if (place < 0 || place >= now.textLength()) {
            throw new IndexOutOfBoundsException();
        }
        return now.placeOver(now.startRow(), place);
    }

    public int letters(int letter) throws IllegalArgumentException {
        if (!isLetter(letter)) {
            throw new IllegalArgumentException();
        }
        survey.unfold(now);
        return survey.timesOfLetter(letter);
    }

    public int account(int what) throws IllegalArgumentException {
        if (what < 0 || what >= ACCOUNTS) {
            throw new IllegalArgumentException();
        }
        return now.accountOf(what);
    }

    public int gap() {
        survey.unfold(now);
        return survey.unlike(now.toldText());
    }

    public int rulesGap() {
        return now.rulesAtFirst() + now.accountOf(MADE) - now.accountOf(INLINED)
            - now.accountOf(UNUSED) - now.accountOf(EXPANDED) - now.manyRules();
    }

    public double ratio() {
        int many = now.textLength();
        return many < 1 ? 0.0 : (double) now.totalSize() / (double) many;
    }

    public int meanBits() {
        int many = now.startRow().many();
        return many < 1 ? 0 : bitsOf((float) now.textLength() / (float) many);
    }

    public long digest() {
        survey.unfold(now);
        return survey.numberOfText();
    }

    // ---- pairs

    public int count(int a, int b) throws IllegalArgumentException {
        if (!isSymbol(a) || !isSymbol(b)) {
            throw new IllegalArgumentException();
        }
        PairTable pairs = stepper.pairs();
        pairs.readFrom(now);
        return pairs.countOf(pairs.pairOf(a, b));
    }

    public int best(int what) throws IllegalArgumentException {
        if (what < 0 || what > 4) {
            throw new IllegalArgumentException();
        }
        PairTable pairs = stepper.pairs();
        pairs.readFrom(now);
        int best = pairs.bestPair();
        if (best == NONE) {
            return what == 4 ? 0 : NONE;
        }
        switch (what) {
            case 0: return pairs.firstOf(best);
            case 1: return pairs.secondOf(best);
            case 2: return pairs.countOf(best);
            case 3: return pairs.keptOf(best);
            default: return pairs.manyAsCommonAsBest();
        }
    }

    public int why(int a, int b) throws IllegalArgumentException {
        if (!isSymbol(a) || !isSymbol(b)) {
            throw new IllegalArgumentException();
        }
        PairTable pairs = stepper.pairs();
        pairs.readFrom(now);
        int pair = pairs.pairOf(a, b);
        if (pairs.countOf(pair) == 0) {
            return 1;
        }
        if (!pairs.isWorth(pair)) {
            return pairs.countOf(pair) < now.number(LEAST) ? 2 : 3;
        }
        int best = pairs.bestPair();
        if (pairs.countOf(best) > pairs.countOf(pair)) {
            return 4;
        }
        return best == pair ? 0 : 5;
    }

    public int gain(int a, int b) throws IllegalArgumentException {
        if (!isSymbol(a) || !isSymbol(b)) {
            throw new IllegalArgumentException();
        }
        PairTable pairs = stepper.pairs();
        pairs.readFrom(now);
        int pair = pairs.pairOf(a, b);
        int many = pairs.countOf(pair);
        return many == 0 || pairs.keptOf(pair) != NONE ? many : many - 2;
    }

    // ---- what will come, if only steps are made (nothing changes)

    public int stepsLeft() {
        trial.takeFrom(now);
        return stepper.makeSteps(trial, FAR);
    }

    public int sizeIn(int steps) throws IllegalArgumentException {
        if (steps < 0 || steps > 100) {
            throw new IllegalArgumentException();
        }
        trial.takeFrom(now);
        stepper.makeSteps(trial, steps);
        return trial.totalSize();
    }

    public int bestTie() {
        return bestNumber(TIE);
    }

    public int bestLeast() {
        return bestNumber(LEAST);
    }

    public int inlinable() {
        trial.takeFrom(now);
        return stepper.inlineAll(trial);
    }

    // ---- changes

    public int step(int steps) throws IllegalArgumentException {
        if (steps < 1 || steps > 50) {
            throw new IllegalArgumentException();
        }
        history.remember(now);
        return stepper.makeSteps(now, steps);
    }

    public int inline() {
        history.remember(now);
        return stepper.inlineAll(now);
    }

    public int make(int a, int b) throws IllegalArgumentException {
        if (!isSymbol(a) || !isSymbol(b)) {
            throw new IllegalArgumentException();
        }
        int refusal = refusalOfMake(a, b);
        if (refusal < 0) {
            return refusal;
        }
        history.remember(now);
        return now.join(a, b);
    }

    public int expand(int rule) throws IndexOutOfBoundsException {
        if (rule < 0 || rule >= RULES) {
            throw new IndexOutOfBoundsException();
        }
        if (!now.hasRule(rule)) {
            return NO_RULE;
        }
        history.remember(now);
        return now.dissolve(rule, EXPANDED);
    }

    public int append(int letter) throws IllegalArgumentException {
        if (!isLetter(letter)) {
            throw new IllegalArgumentException();
        }
        if (now.textLength() >= LONGEST) {
            return TOO_LONG;
        }
        history.remember(now);
        now.addLetter(letter);
        return now.textLength();
    }

    public int cut(int many) throws IllegalArgumentException {
        if (many < 1 || many > LONGEST) {
            throw new IllegalArgumentException();
        }
        if (many >= now.textLength()) {
            return TOO_SHORT;
        }
        history.remember(now);
        now.dropLetters(many);
        return now.startRow().many();
    }

    public int set(int what, int value) throws IllegalArgumentException {
        if (what < LEAST || what > INLINE) {
            throw new IllegalArgumentException();
        }
        if (value < lowest(what) || value > highest(what)) {
            throw new IllegalArgumentException();
        }
        history.remember(now);
        int before = now.number(what);
        now.putNumber(what, value);
        return before;
    }

    // ---- reports, undo, saved states

    public int report() {
        written.writeOf(now);
        return written.many();
    }

    public int reportByte(int i) {
        return written.at(i);
    }

    public int undo() throws NoSuchElementException {
        if (history.manyPast() == 0) {
            throw new NoSuchElementException();
        }
        history.goBack(now);
        return history.manyPast();
    }

    public int save(int slot) throws IllegalArgumentException {
        if (slot < 0 || slot >= History.SLOTS) {
            throw new IllegalArgumentException();
        }
        history.keep(slot, now);
        return now.totalSize();
    }

    public int restore(int slot) throws IllegalArgumentException, NoSuchElementException {
        if (slot < 0 || slot >= History.SLOTS) {
            throw new IllegalArgumentException();
        }
        if (!history.hasKept(slot)) {
            throw new NoSuchElementException();
        }
        history.bringBack(slot, now);
        history.forgetPast();
        return now.totalSize();
    }

    // ---- behind the face

    private static boolean isLetter(int number) {
        return number >= 0 && number < ALPHABET;
    }

    private static boolean isSymbol(int number) {
        return number >= 0 && number < SYMBOLS;
    }

    private static int lowest(int what) {
        return what == LEAST ? 2 : 0;
    }

    private static int highest(int what) {
        switch (what) {
            case LEAST: return 9;
            case TIE: return 2;
            default: return 1;
        }
    }

    /** The bits of a float of 1 or more, as the library's function for it is out of bounds here. */
    private static int bitsOf(float number) {
        float left = number;
        int exponent = 127;
        for (int i = 0; i < 127 && left >= 2.0f; i++) {
            left = left / 2.0f;
            exponent++;
        }
        int fraction = (int) ((left - 1.0f) * 8388608.0f);
        return (exponent << 23) | (fraction & 8388607);
    }

    private int failure() {
        errorAt = source.errorAt();
        return -10 - source.errorCode();
    }

    private int bestNumber(int what) {
        int best = NONE;
        int leastSize = 0;
        for (int value = lowest(what); value <= highest(what); value++) {
            trial.takeFrom(now);
            trial.putNumber(what, value);
            stepper.makeSteps(trial, FAR);
            int total = trial.totalSize();
            if (best == NONE || total < leastSize) {
                leastSize = total;
                best = value;
            }
        }
        return best;
    }

    private int refusalOfMake(int a, int b) {
        if (!now.hasSymbol(a) || !now.hasSymbol(b)) {
            return NO_SYMBOL;
        }
        PairTable pairs = stepper.pairs();
        pairs.readFrom(now);
        int pair = pairs.pairOf(a, b);
        if (pairs.countOf(pair) == 0) {
            return NO_COUNT;
        }
        return pairs.keptOf(pair) == NONE && now.lowestFree() == NONE ? NO_NUMBER : 0;
    }

    /** Returns whether the order could be done. */
    private boolean doOrder(int at) {
        int number = script.number(at);
        switch (script.word(at)) {
            case STEP:
                stepper.makeSteps(now, number);
                return true;
            case INLINED:
                stepper.inlineAll(now);
                return true;
            case MAKE:
                return doMake(script.letter(at, 0), script.letter(at, 1));
            case EXPAND:
                return doExpand(number);
            case APPEND:
                return doAppend(at);
            case CUT:
                return doCut(number);
            case LEAST:
                now.putNumber(LEAST, number);
                return true;
            case TIE:
                now.putNumber(TIE, number);
                return true;
            case MODE:
                now.putNumber(INLINE, number);
                return true;
            default:
                return false;
        }
    }

    private boolean doMake(int a, int b) {
        if (refusalOfMake(a, b) < 0) {
            return false;
        }
        now.join(a, b);
        return true;
    }

    private boolean doExpand(int rule) {
        if (!now.hasRule(rule)) {
            return false;
        }
        now.dissolve(rule, EXPANDED);
        return true;
    }

    private boolean doAppend(int at) {
        for (int i = 0; i < script.manyLetters(at); i++) {
            if (now.textLength() >= LONGEST) {
                return false;
            }
            now.addLetter(script.letter(at, i));
        }
        return true;
    }

    private boolean doCut(int many) {
        if (many >= now.textLength()) {
            return false;
        }
        now.dropLetters(many);
        return true;
    }

    /** A row of SYMBOLS. It gets its room in few leaps, as all that is ever made is counted. */
    private static final class Row {
        private int[] cells = new int[0];
        private int many;

        int many() {
            return many;
        }

        int at(int place) {
            return place >= 0 && place < many ? cells[place] : NONE;
        }

        void clear() {
            many = 0;
        }

        void put(int symbol) {
            if (makeRoom(many + 1)) {
                cells[many] = symbol;
                many++;
            }
        }

        void putAll(Row other) {
            if (makeRoom(many + other.many)) {
                System.arraycopy(other.cells, 0, cells, many, other.many);
                many += other.many;
            }
        }

        void drop(int fewer) {
            many = fewer < many ? many - fewer : 0;
        }

        void takeFrom(Row other) {
            many = 0;
            putAll(other);
        }

        boolean isPair(int a, int b) {
            return many == 2 && cells[0] == a && cells[1] == b;
        }

        int timesOf(int symbol) {
            int times = 0;
            for (int i = 0; i < many; i++) {
                if (cells[i] == symbol) {
                    times++;
                }
            }
            return times;
        }

        /** Puts one symbol in the place of each pair that is found; returns how many were. */
        int join(int a, int b, int symbol) {
            int places = 0;
            int to = 0;
            for (int from = 0; from < many; from++) {
                if (cells[from] == a && from + 1 < many && cells[from + 1] == b) {
                    cells[to] = symbol;
                    from++;
                    places++;
                } else {
                    cells[to] = cells[from];
                }
                to++;
            }
            many = to;
            return places;
        }

        /** Puts a body in the place of a symbol wherever it stands; returns how often it stood. */
        int open(int symbol, Row body) {
            int times = timesOf(symbol);
            int then = many + times * (body.many - 1);
            if (times == 0 || body.many == 0 || !makeRoom(then)) {
                return 0;
            }
            // from the end on, so that no cell is written over ahead of its being read
            int to = then;
            for (int from = many - 1; from >= 0; from--) {
                if (cells[from] == symbol) {
                    to -= body.many;
                    System.arraycopy(body.cells, 0, cells, to, body.many);
                } else {
                    to--;
                    cells[to] = cells[from];
                }
            }
            many = then;
            return times;
        }

        private boolean makeRoom(int need) {
            if (need <= cells.length) {
                return true;
            }
            if (need > LONGEST) {
                return false;
            }
            int room = 4;
            for (int leaps = 0; leaps < 4 && room < need; leaps++) {
                room = Math.min(4 * room, LONGEST);
            }
            int[] wider = new int[room];
            System.arraycopy(cells, 0, wider, 0, many);
            cells = wider;
            return true;
        }
    }

    /** All that undoing restores: the rows, the TEXT as it was told, the accounts, the numbers. */
    private static final class Grammar {
        private final Row start = new Row();
        private final Row told = new Row();
        private final Row[] bodies = new Row[RULES];
        /** Stays empty: the BODY of a rule that there is not. */
        private final Row nothing = new Row();
        /** LENGTHS of the rules: no change alters them, so they are kept and not unfolded for. */
        private final int[] lengths = new int[RULES];
        private final int[] accounts = new int[ACCOUNTS];
        private int least = 2;
        private int tie;
        private int inlines = 1;
        private int rulesAtFirst;

        Grammar() {
            for (int i = 0; i < RULES; i++) {
                bodies[i] = new Row();
            }
        }

        void clear() {
            start.clear();
            told.clear();
            for (int i = 0; i < RULES; i++) {
                bodies[i].clear();
                lengths[i] = 0;
            }
            for (int i = 0; i < ACCOUNTS; i++) {
                accounts[i] = 0;
            }
            least = 2;
            tie = 0;
            inlines = 1;
            rulesAtFirst = 0;
        }

        void becomeLetterA() {
            clear();
            start.put(0);
            told.put(0);
        }

        void beginWith(Survey unfolded) {
            unfolded.writeTextTo(told);
            rulesAtFirst = manyRules();
        }

        void takeFrom(Grammar other) {
            start.takeFrom(other.start);
            told.takeFrom(other.told);
            for (int i = 0; i < RULES; i++) {
                bodies[i].takeFrom(other.bodies[i]);
                lengths[i] = other.lengths[i];
            }
            for (int i = 0; i < ACCOUNTS; i++) {
                accounts[i] = other.accounts[i];
            }
            least = other.least;
            tie = other.tie;
            inlines = other.inlines;
            rulesAtFirst = other.rulesAtFirst;
        }

        Row startRow() {
            return start;
        }

        Row toldText() {
            return told;
        }

        Row body(int rule) {
            return rule >= 0 && rule < RULES ? bodies[rule] : nothing;
        }

        boolean hasRule(int rule) {
            return body(rule).many() > 0;
        }

        boolean hasSymbol(int symbol) {
            return isLetter(symbol) || hasRule(symbol - ALPHABET);
        }

        int lengthOf(int symbol) {
            if (symbol < 0 || symbol >= SYMBOLS) {
                return 0;
            }
            return symbol < ALPHABET ? 1 : lengths[symbol - ALPHABET];
        }

        void putLength(int rule, int length) {
            if (rule >= 0 && rule < RULES) {
                lengths[rule] = length;
            }
        }

        int number(int what) {
            switch (what) {
                case LEAST: return least;
                case TIE: return tie;
                default: return inlines;
            }
        }

        void putNumber(int what, int value) {
            switch (what) {
                case LEAST:
                    least = value;
                    break;
                case TIE:
                    tie = value;
                    break;
                default:
                    inlines = value;
                    break;
            }
        }

        int accountOf(int what) {
            return what >= 0 && what < ACCOUNTS ? accounts[what] : 0;
        }

        void addTo(int account, int more) {
            if (account >= 0 && account < ACCOUNTS) {
                accounts[account] += more;
            }
        }

        int rulesAtFirst() {
            return rulesAtFirst;
        }

        int manyRules() {
            int rules = 0;
            for (int i = 0; i < RULES; i++) {
                rules += bodies[i].many() > 0 ? 1 : 0;
            }
            return rules;
        }

        int totalSize() {
            int total = start.many();
            for (int i = 0; i < RULES; i++) {
                total += bodies[i].many();
            }
            return total;
        }

        int longestBody() {
            int longest = 0;
            for (int i = 0; i < RULES; i++) {
                longest = Math.max(longest, bodies[i].many());
            }
            return longest;
        }

        int textLength() {
            int total = 0;
            for (int i = 0; i < start.many(); i++) {
                total += lengthOf(start.at(i));
            }
            return total;
        }

        int usesOf(int rule) {
            int uses = start.timesOf(ALPHABET + rule);
            for (int i = 0; i < RULES; i++) {
                uses += bodies[i].timesOf(ALPHABET + rule);
            }
            return uses;
        }

        int lowestFree() {
            for (int i = 0; i < RULES; i++) {
                if (bodies[i].many() == 0) {
                    return i;
                }
            }
            return NONE;
        }

        /** Returns the place in a row of the SYMBOL that unfolds to a letter, or its last place. */
        int placeOver(Row row, int letterPlace) {
            int behind = 0;
            for (int i = 0; i < row.many(); i++) {
                behind += lengthOf(row.at(i));
                if (letterPlace < behind) {
                    return i;
                }
            }
            return row.many() - 1;
        }

        int letterOfText(int place) {
            Row row = start;
            int left = place;
            for (int level = 0; level <= RULES; level++) {
                int over = placeOver(row, left);
                for (int i = 0; i < over; i++) {
                    left -= lengthOf(row.at(i));
                }
                int symbol = row.at(over);
                if (symbol < ALPHABET) {
                    return symbol;
                }
                row = body(symbol - ALPHABET);
            }
            return NONE;
        }

        /** Makes one SYMBOL of a pair in all rows; returns its KEPT or the new rule. */
        int join(int a, int b) {
            int kept = keptOf(a, b);
            int rule = kept == NONE ? lowestFree() : kept;
            if (rule == NONE) {
                return NONE;
            }
            int places = start.join(a, b, ALPHABET + rule);
            for (int i = 0; i < RULES; i++) {
                if (!bodies[i].isPair(a, b)) {
                    places += bodies[i].join(a, b, ALPHABET + rule);
                }
            }
            addTo(PLACES, places);
            if (kept == NONE) {
                bodies[rule].put(a);
                bodies[rule].put(b);
                lengths[rule] = lengthOf(a) + lengthOf(b);
                addTo(MADE, 1);
            }
            return rule;
        }

        private int keptOf(int a, int b) {
            for (int i = 0; i < RULES; i++) {
                if (bodies[i].isPair(a, b)) {
                    return i;
                }
            }
            return NONE;
        }

        /** Puts the BODY of a rule in the place of its USES, removes it; returns the USES. */
        int dissolve(int rule, int account) {
            Row body = body(rule);
            int symbol = ALPHABET + rule;
            int uses = start.open(symbol, body);
            for (int i = 0; i < RULES; i++) {
                uses += bodies[i].open(symbol, body);
            }
            body.clear();
            putLength(rule, 0);
            addTo(account, 1);
            return uses;
        }

        void addLetter(int letter) {
            start.put(letter);
            told.put(letter);
            addTo(APPENDED, 1);
        }

        void dropLetters(int letters) {
            int left = letters;
            for (int moves = 0; moves < FAR && left > 0 && start.many() > 0; moves++) {
                int symbol = start.at(start.many() - 1);
                start.drop(1);
                if (lengthOf(symbol) <= left) {
                    left -= lengthOf(symbol);
                } else {
                    start.putAll(body(symbol - ALPHABET));
                    addTo(OPENED, 1);
                }
            }
            told.drop(letters);
            addTo(CUT, letters);
        }
    }

    /** COUNT, first place and KEPT of each pair, as the rows were when they were read. */
    private static final class PairTable {
        private static final int PAIRS = SYMBOLS * SYMBOLS;

        private final int[] counts = new int[PAIRS];
        private final int[] places = new int[PAIRS];
        private final int[] kepts = new int[PAIRS];
        /** The pairs that were touched, so that no other entry need be looked at or cleared. */
        private final int[] touched = new int[PAIRS];
        private int manyTouched;
        private Grammar grammar;
        private boolean free;
        private int best = NONE;
        private int worth;
        private int alike;

        PairTable() {
            for (int i = 0; i < PAIRS; i++) {
                kepts[i] = NONE;
            }
        }

        void readFrom(Grammar read) {
            clear();
            grammar = read;
            free = read.lowestFree() != NONE;
            for (int i = 0; i < RULES; i++) {
                if (read.body(i).many() == 2) {
                    noteKept(i, read.body(i));
                }
            }
            noteRow(read.startRow(), 0);
            for (int i = 0; i < RULES; i++) {
                // a BODY of two is a pair alone: nothing else could be found in it
                if (read.body(i).many() > 2) {
                    noteRow(read.body(i), (i + 1) * LONGEST);
                }
            }
            choose();
        }

        int pairOf(int a, int b) {
            return isSymbol(a) && isSymbol(b) ? a * SYMBOLS + b : NONE;
        }

        int firstOf(int pair) {
            return pair / SYMBOLS;
        }

        int secondOf(int pair) {
            return pair % SYMBOLS;
        }

        int countOf(int pair) {
            return pair >= 0 && pair < PAIRS ? counts[pair] : 0;
        }

        int keptOf(int pair) {
            return pair >= 0 && pair < PAIRS ? kepts[pair] : NONE;
        }

        boolean isWorth(int pair) {
            if (keptOf(pair) != NONE) {
                return countOf(pair) > 0;
            }
            return free && grammar != null && countOf(pair) >= grammar.number(LEAST);
        }

        int bestPair() {
            return best;
        }

        int manyWorth() {
            return worth;
        }

        int manyAsCommonAsBest() {
            return alike;
        }

        private void clear() {
            for (int i = 0; i < manyTouched; i++) {
                counts[touched[i]] = 0;
                kepts[touched[i]] = NONE;
            }
            manyTouched = 0;
        }

        private void touch(int pair) {
            if (counts[pair] == 0 && kepts[pair] == NONE && manyTouched < PAIRS) {
                touched[manyTouched] = pair;
                manyTouched++;
            }
        }

        private void noteKept(int rule, Row body) {
            int pair = pairOf(body.at(0), body.at(1));
            if (pair != NONE && kepts[pair] == NONE) {
                touch(pair);
                kepts[pair] = rule;
            }
        }

        private void noteRow(Row row, int rowPlace) {
            int twinsAt = NONE - 1;
            for (int i = 0; i + 1 < row.many(); i++) {
                int a = row.at(i);
                int b = row.at(i + 1);
                // only a pair of twins can lie across the one that was found a place ahead
                if (a == b && twinsAt == i - 1) {
                    continue;
                }
                twinsAt = a == b ? i : twinsAt;
                notePair(pairOf(a, b), rowPlace + i);
            }
        }

        private void notePair(int pair, int place) {
            if (pair == NONE) {
                return;
            }
            touch(pair);
            if (counts[pair] == 0) {
                places[pair] = place;
            }
            counts[pair]++;
        }

        private void choose() {
            best = NONE;
            worth = 0;
            alike = 0;
            for (int i = 0; i < manyTouched; i++) {
                int pair = touched[i];
                if (!isWorth(pair)) {
                    continue;
                }
                worth++;
                if (best == NONE || counts[pair] > counts[best]) {
                    best = pair;
                    alike = 1;
                } else if (counts[pair] == counts[best]) {
                    alike++;
                    best = isAheadByTie(pair, best) ? pair : best;
                }
            }
        }

        private boolean isAheadByTie(int pair, int other) {
            if (grammar == null || grammar.number(TIE) == 0) {
                return pair < other;
            }
            if (grammar.number(TIE) == 1) {
                return places[pair] < places[other];
            }
            int longer = grammar.lengthOf(firstOf(pair)) + grammar.lengthOf(secondOf(pair))
                - grammar.lengthOf(firstOf(other)) - grammar.lengthOf(secondOf(other));
            return longer == 0 ? pair < other : longer > 0;
        }
    }

    /** Makes steps and inlines rules in whatever grammar it is given. */
    private static final class Stepper {
        private final PairTable pairs = new PairTable();
        private final int[] uses = new int[RULES];

        PairTable pairs() {
            return pairs;
        }

        /** Makes steps until there is no BEST pair; returns how many changed something. */
        int makeSteps(Grammar grammar, int most) {
            int made = 0;
            while (made < most) {
                pairs.readFrom(grammar);
                int best = pairs.bestPair();
                if (best == NONE) {
                    return made;
                }
                grammar.join(pairs.firstOf(best), pairs.secondOf(best));
                grammar.addTo(STEPS, 1);
                if (grammar.number(INLINE) == 1) {
                    inlineAll(grammar);
                }
                made++;
            }
            return made;
        }

        /** Returns how many rules were inlined or removed. */
        int inlineAll(Grammar grammar) {
            countUses(grammar);
            for (int gone = 0; gone < RULES; gone++) {
                int rule = lowestHardlyUsed(grammar);
                if (rule == NONE) {
                    return gone;
                }
                if (uses[rule] == 1) {
                    // what the BODY uses is moved with it, so no other rule has more or fewer USES
                    grammar.dissolve(rule, INLINED);
                } else {
                    noteUses(grammar.body(rule), -1);
                    grammar.dissolve(rule, UNUSED);
                }
            }
            return RULES;
        }

        private void countUses(Grammar grammar) {
            for (int i = 0; i < RULES; i++) {
                uses[i] = 0;
            }
            noteUses(grammar.startRow(), 1);
            for (int i = 0; i < RULES; i++) {
                noteUses(grammar.body(i), 1);
            }
        }

        private void noteUses(Row row, int change) {
            for (int i = 0; i < row.many(); i++) {
                int rule = row.at(i) - ALPHABET;
                if (rule >= 0 && rule < RULES) {
                    uses[rule] += change;
                }
            }
        }

        private int lowestHardlyUsed(Grammar grammar) {
            for (int i = 0; i < RULES; i++) {
                if (uses[i] < 2 && grammar.hasRule(i)) {
                    return i;
                }
            }
            return NONE;
        }
    }

    /** What can be told of a grammar only by going through all of it. */
    private static final class Survey {
        /** The rules from the shortest to the longest: each one behind all that it uses. */
        private final int[] order = new int[RULES];
        private final int[] depths = new int[RULES];
        private final int[] comings = new int[RULES];
        private final int[] text = new int[LONGEST];
        private final int[] openRules = new int[RULES + 1];
        private final int[] openPlaces = new int[RULES + 1];
        private int manyOrdered;
        private int manyLetters;

        void measure(Grammar grammar) {
            orderByLength(grammar);
            for (int i = 0; i < RULES; i++) {
                depths[i] = 0;
                comings[i] = 0;
            }
            for (int i = 0; i < manyOrdered; i++) {
                depths[order[i]] = 1 + deepestIn(grammar.body(order[i]));
            }
            addComings(grammar.startRow(), 1);
            for (int i = manyOrdered - 1; i >= 0; i--) {
                addComings(grammar.body(order[i]), comings[order[i]]);
            }
        }

        int depthOf(int symbol) {
            return symbol >= ALPHABET && symbol < SYMBOLS ? depths[symbol - ALPHABET] : 0;
        }

        int deepestIn(Row row) {
            int deepest = 0;
            for (int i = 0; i < row.many(); i++) {
                deepest = Math.max(deepest, depthOf(row.at(i)));
            }
            return deepest;
        }

        int comingsOf(int rule) {
            return rule >= 0 && rule < RULES ? comings[rule] : 0;
        }

        private void orderByLength(Grammar grammar) {
            manyOrdered = 0;
            for (int rule = 0; rule < RULES; rule++) {
                if (!grammar.hasRule(rule)) {
                    continue;
                }
                int length = grammar.lengthOf(ALPHABET + rule);
                int place = manyOrdered;
                while (place > 0 && grammar.lengthOf(ALPHABET + order[place - 1]) > length) {
                    order[place] = order[place - 1];
                    place--;
                }
                order[place] = rule;
                manyOrdered++;
            }
        }

        private void addComings(Row row, int times) {
            for (int i = 0; i < row.many(); i++) {
                int rule = row.at(i) - ALPHABET;
                if (rule >= 0 && rule < RULES) {
                    comings[rule] += times;
                }
            }
        }

        void unfold(Grammar grammar) {
            manyLetters = 0;
            int open = 0;
            openPlaces[0] = 0;
            for (int moves = 0; moves < FAR && open >= 0; moves++) {
                Row row = open == 0 ? grammar.startRow() : grammar.body(openRules[open]);
                int symbol = row.at(openPlaces[open]);
                openPlaces[open]++;
                if (symbol == NONE) {
                    open--;
                } else if (symbol < ALPHABET) {
                    addLetter(symbol);
                } else if (open < RULES) {
                    open++;
                    openRules[open] = symbol - ALPHABET;
                    openPlaces[open] = 0;
                }
            }
        }

        private void addLetter(int letter) {
            if (manyLetters < LONGEST) {
                text[manyLetters] = letter;
                manyLetters++;
            }
        }

        void writeTextTo(Row row) {
            row.clear();
            for (int i = 0; i < manyLetters; i++) {
                row.put(text[i]);
            }
        }

        int timesOfLetter(int letter) {
            int times = 0;
            for (int i = 0; i < manyLetters; i++) {
                times += text[i] == letter ? 1 : 0;
            }
            return times;
        }

        int unlikeLetters() {
            int unlike = 0;
            for (int letter = 0; letter < ALPHABET; letter++) {
                unlike += timesOfLetter(letter) > 0 ? 1 : 0;
            }
            return unlike;
        }

        int unlike(Row told) {
            int common = Math.min(manyLetters, told.many());
            int unlike = Math.max(manyLetters, told.many()) - common;
            for (int i = 0; i < common; i++) {
                unlike += text[i] == told.at(i) ? 0 : 1;
            }
            return unlike;
        }

        long numberOfText() {
            long number = 1;
            for (int i = 0; i < manyLetters; i++) {
                number = number * 31 + text[i] + 1;
            }
            return number;
        }
    }

    /** The words of setups and scripts; those of scripts with the numbers that stand behind them. */
    private enum Word {
        RULE("rule", false, 0, RULES - 1),
        START("start", false, 0, 0),
        INLINE("inline", false, 0, 1),
        LEAST("least", true, 2, 9),
        TIE("tie", true, 0, 2),
        MODE("mode", true, 0, 1),
        STEP("step", true, 1, 50),
        INLINED("inlined", true, 0, 0),
        MAKE("make", true, 0, 0),
        EXPAND("expand", true, 0, RULES - 1),
        APPEND("append", true, 0, 0),
        CUT("cut", true, 1, LONGEST),
        AGAIN("again", true, 0, 20),
        /** Closes the script of an again. */
        CLOSE(")", false, 0, 0),
        OTHER("", false, 0, 0);

        private final String text;
        private final boolean orders;
        private final int lowest;
        private final int highest;

        Word(String text, boolean orders, int lowest, int highest) {
            this.text = text;
            this.orders = orders;
            this.lowest = lowest;
            this.highest = highest;
        }
    }

    /** The buffer, and its tokens one after the other; it keeps the first error that is told. */
    private static final class Source {
        private static final Word[] WORDS = Word.values();
        private static final int END = 0;
        private static final int LETTERS = 1;
        private static final int NUMBER = 2;
        private static final int SEMICOLON = 3;
        private static final int OPEN = 4;
        private static final int SHUT = 5;
        private static final int INVALID = 6;

        private final int[] bytes = new int[MOST_BYTES];
        private int many;
        private int kind;
        private int from;
        private int to;
        private int value;
        private int errorCode;
        private int errorAt;

        int many() {
            return many;
        }

        void dropAll() {
            many = 0;
        }

        int bytesIn(int four) {
            int found = 0;
            for (int shift = 24; shift >= 0; shift -= 8) {
                found += ((four >>> shift) & 255) != 0 ? 1 : 0;
            }
            return found;
        }

        boolean hasRoomFor(int more) {
            return many + more <= MOST_BYTES;
        }

        void take(int four) {
            for (int shift = 24; shift >= 0; shift -= 8) {
                int one = (four >>> shift) & 255;
                if (one != 0 && many < MOST_BYTES) {
                    bytes[many] = one;
                    many++;
                }
            }
        }

        int byteAt(int place) {
            return place >= 0 && place < MOST_BYTES ? bytes[place] : 0;
        }

        void rewind() {
            to = 0;
            errorCode = 0;
            errorAt = NONE;
            advance();
        }

        void advance() {
            int at = to;
            while (at < many && (bytes[at] == 32 || bytes[at] == 10)) {
                at++;
            }
            from = at;
            kind = at < many ? kindOf(bytes[at]) : END;
            boolean runs = kind == LETTERS || kind == NUMBER;
            at += kind == END ? 0 : 1;
            while (runs && at < many && kindOf(bytes[at]) == kind) {
                at++;
            }
            to = at;
        }

        private int kindOf(int one) {
            if (one >= 'a' && one <= 'z') {
                return LETTERS;
            }
            if (one >= '0' && one <= '9') {
                return NUMBER;
            }
            switch (one) {
                case ';': return SEMICOLON;
                case '(': return OPEN;
                case ')': return SHUT;
                default: return INVALID;
            }
        }

        boolean is(int wanted) {
            return kind == wanted;
        }

        int from() {
            return from;
        }

        int manyInToken() {
            return to - from;
        }

        Word word() {
            if (kind == LETTERS) {
                for (int i = 0; i < WORDS.length; i++) {
                    if (spells(WORDS[i].text)) {
                        return WORDS[i];
                    }
                }
            }
            return Word.OTHER;
        }

        private boolean spells(String text) {
            if (text.length() != to - from) {
                return false;
            }
            for (int i = 0; i < text.length(); i++) {
                if (byteAt(from + i) != text.charAt(i)) {
                    return false;
                }
            }
            return true;
        }

        /** Reads the token as a number of a range; value() tells it then. */
        boolean readNumber(int lowest, int highest) {
            if (kind != NUMBER) {
                return fail(MISPLACED);
            }
            if (to - from > 6) {
                return fail(OUT_OF_RANGE);
            }
            value = 0;
            for (int i = from; i < to; i++) {
                value = value * 10 + byteAt(i) - '0';
            }
            return value >= lowest && value <= highest || fail(OUT_OF_RANGE);
        }

        int value() {
            return value;
        }

        /** Goes on behind a token of a kind, which must stand here. */
        boolean pass(int wanted) {
            if (kind != wanted) {
                return fail(MISPLACED);
            }
            advance();
            return true;
        }

        boolean fail(int code) {
            return failAt(code, from);
        }

        /** Always false, so that a reader can return it. */
        boolean failAt(int code, int place) {
            errorCode = code;
            errorAt = place;
            return false;
        }

        int errorCode() {
            return errorCode;
        }

        int errorAt() {
            return errorAt;
        }
    }

    /** Reads a setup into a grammar; the TEXT as it was told is left to the caller. */
    private static final class Setup {
        private final Source source;
        private final Grammar goal;
        private int rulesTold;
        /** How many letters the row that is read unfolds to. */
        private int length;
        private boolean leastTold;
        private boolean tieTold;
        private boolean inlineTold;

        Setup(Source source, Grammar goal) {
            this.source = source;
            this.goal = goal;
        }

        boolean read() {
            goal.clear();
            rulesTold = 0;
            leastTold = false;
            tieTold = false;
            inlineTold = false;
            source.rewind();
            return readRules() && readStart() && readStatements();
        }

        private boolean readRules() {
            for (int rule = 0; rule <= RULES && source.word() == Word.RULE; rule++) {
                if (rule == RULES) {
                    return source.fail(TOO_MANY);
                }
                source.advance();
                if (!readItems(goal.body(rule))) {
                    return false;
                }
                if (source.is(Source.SEMICOLON) && goal.body(rule).many() < 2) {
                    return source.fail(TWICE_OR_ALONE);
                }
                if (!source.pass(Source.SEMICOLON)) {
                    return false;
                }
                goal.putLength(rule, length);
                rulesTold = rule + 1;
            }
            return true;
        }

        private boolean readStart() {
            if (source.word() != Word.START) {
                return source.fail(MISPLACED);
            }
            source.advance();
            return readItems(goal.startRow());
        }

        private boolean readItems(Row row) {
            length = 0;
            for (int items = 0; items <= MOST_BYTES; items++) {
                boolean good;
                if (source.is(Source.LETTERS)) {
                    good = readLetters(row);
                } else if (source.is(Source.OPEN)) {
                    good = readRule(row);
                } else {
                    return items > 0 || source.fail(MISPLACED);
                }
                if (!good) {
                    return false;
                }
            }
            return source.fail(MISPLACED);
        }

        private boolean readLetters(Row row) {
            int letters = source.manyInToken();
            // no SYMBOL unfolds to less than one letter, so the LENGTH bounds the SYMBOLS too
            if (length + letters > LONGEST) {
                return source.fail(TOO_MANY);
            }
            for (int i = 0; i < letters; i++) {
                row.put(source.byteAt(source.from() + i) - 'a');
            }
            length += letters;
            source.advance();
            return true;
        }

        private boolean readRule(Row row) {
            int bracket = source.from();
            source.advance();
            if (!source.readNumber(Word.RULE.lowest, Word.RULE.highest)) {
                return false;
            }
            // an item too many is wrong at its bracket, which lies ahead of its RULE and of all behind that
            if (row.many() >= LONGEST) {
                return source.failAt(TOO_MANY, bracket);
            }
            int rule = source.value();
            if (rule >= rulesTold) {
                return source.fail(UNTOLD_OR_NOT_TWO);
            }
            length += goal.lengthOf(ALPHABET + rule);
            if (length > LONGEST) {
                return source.failAt(TOO_MANY, bracket);
            }
            row.put(ALPHABET + rule);
            source.advance();
            return source.pass(Source.SHUT);
        }

        private boolean readStatements() {
            for (int i = 0; i <= MOST_BYTES && !source.is(Source.END); i++) {
                if (!source.pass(Source.SEMICOLON) || !readStatement()) {
                    return false;
                }
            }
            return true;
        }

        private boolean readStatement() {
            Word word = source.word();
            if (word != Word.LEAST && word != Word.TIE && word != Word.INLINE) {
                return source.fail(MISPLACED);
            }
            if (isTold(word)) {
                return source.fail(TWICE_OR_ALONE);
            }
            source.advance();
            if (!source.readNumber(word.lowest, word.highest)) {
                return false;
            }
            noteTold(word, source.value());
            source.advance();
            return true;
        }

        private boolean isTold(Word word) {
            switch (word) {
                case LEAST: return leastTold;
                case TIE: return tieTold;
                default: return inlineTold;
            }
        }

        private void noteTold(Word word, int value) {
            switch (word) {
                case LEAST:
                    leastTold = true;
                    goal.putNumber(PairRules.LEAST, value);
                    break;
                case TIE:
                    tieTold = true;
                    goal.putNumber(PairRules.TIE, value);
                    break;
                default:
                    inlineTold = true;
                    goal.putNumber(PairRules.INLINE, value);
                    break;
            }
        }
    }

    /** Reads a script and holds its entries: its orders, and a CLOSE behind those of each again. */
    private static final class Script {
        private static final int ENTRIES = 2 * MOST_ORDERS;

        private final Source source;
        private final Word[] words = new Word[ENTRIES];
        private final int[] numbers = new int[ENTRIES];
        private final int[] lettersFrom = new int[ENTRIES];
        private final int[] lettersMany = new int[ENTRIES];
        /** Of an again the entry of its CLOSE, and the other way round. */
        private final int[] partners = new int[ENTRIES];
        /** How often the script of an again is still to be done, the time that is under way too. */
        private final int[] timesLeft = new int[ENTRIES];
        private final int[] openAgains = new int[MOST_NESTED];
        private int many;
        private int orders;
        private int open;

        Script(Source source) {
            this.source = source;
            for (int i = 0; i < ENTRIES; i++) {
                words[i] = Word.OTHER;
            }
        }

        boolean read() {
            many = 0;
            orders = 0;
            open = 0;
            source.rewind();
            for (int i = 0; i <= MOST_BYTES; i++) {
                if (open == 0 && source.is(Source.END)) {
                    return true;
                }
                boolean shuts = open > 0 && source.is(Source.SHUT);
                if (!(shuts ? readClose() : readOrder())) {
                    return false;
                }
            }
            return source.fail(MISPLACED);
        }

        private boolean readClose() {
            int close = addEntry(Word.CLOSE);
            open--;
            int again = open >= 0 && open < MOST_NESTED ? openAgains[open] : 0;
            partners[again] = close;
            partners[close] = again;
            source.advance();
            return source.pass(Source.SEMICOLON);
        }

        private boolean readOrder() {
            Word word = source.word();
            if (!word.orders) {
                return source.fail(MISPLACED);
            }
            if (orders >= MOST_ORDERS) {
                return source.fail(TOO_MANY);
            }
            orders++;
            int entry = addEntry(word);
            source.advance();
            switch (word) {
                case INLINED:
                    return source.pass(Source.SEMICOLON);
                case MAKE:
                case APPEND:
                    return readLetters(entry) && source.pass(Source.SEMICOLON);
                case AGAIN:
                    return readNumber(entry) && readOpen(entry);
                default:
                    return readNumber(entry) && source.pass(Source.SEMICOLON);
            }
        }

        private int addEntry(Word word) {
            int entry = Math.min(many, ENTRIES - 1);
            words[entry] = word;
            many = entry + 1;
            return entry;
        }

        private boolean readNumber(int entry) {
            if (!source.readNumber(words[entry].lowest, words[entry].highest)) {
                return false;
            }
            numbers[entry] = source.value();
            source.advance();
            return true;
        }

        private boolean readLetters(int entry) {
            if (!source.is(Source.LETTERS)) {
                return source.fail(MISPLACED);
            }
            if (words[entry] == Word.MAKE && source.manyInToken() != 2) {
                return source.fail(UNTOLD_OR_NOT_TWO);
            }
            lettersFrom[entry] = source.from();
            lettersMany[entry] = source.manyInToken();
            source.advance();
            return true;
        }

        private boolean readOpen(int entry) {
            if (source.is(Source.OPEN) && open >= MOST_NESTED) {
                return source.fail(TOO_MANY);
            }
            if (!source.pass(Source.OPEN)) {
                return false;
            }
            openAgains[open] = entry;
            open++;
            return true;
        }

        private boolean isEntry(int entry) {
            return entry >= 0 && entry < many;
        }

        Word word(int entry) {
            return isEntry(entry) ? words[entry] : Word.OTHER;
        }

        int number(int entry) {
            return isEntry(entry) ? numbers[entry] : 0;
        }

        int manyLetters(int entry) {
            return isEntry(entry) ? lettersMany[entry] : 0;
        }

        int letter(int entry, int place) {
            return isEntry(entry) ? source.byteAt(lettersFrom[entry] + place) - 'a' : 0;
        }

        /** Returns the entry of the order that is to be done first, NONE if there is none. */
        int firstOrder() {
            return orderFrom(0);
        }

        /** Returns the entry of the order that is to be done behind one that was done. */
        int orderBehind(int entry) {
            return orderFrom(entry + 1);
        }

        private int orderFrom(int entry) {
            int at = entry;
            for (int turns = 0; turns < FAR && isEntry(at); turns++) {
                if (words[at] == Word.AGAIN) {
                    timesLeft[at] = numbers[at];
                    at = turn(at, partners[at]);
                } else if (words[at] == Word.CLOSE) {
                    timesLeft[partners[at]]--;
                    at = turn(partners[at], at);
                } else {
                    return at;
                }
            }
            return NONE;
        }

        private int turn(int again, int close) {
            return (timesLeft[again] > 0 ? again : close) + 1;
        }
    }

    /** The states that can be gone back to, and those that were saved. */
    private static final class History {
        private static final int SLOTS = 2;
        private static final int DEPTH = 8;

        private final Grammar[] past = new Grammar[DEPTH];
        private final Grammar[] kept = new Grammar[SLOTS];
        private final boolean[] isKept = new boolean[SLOTS];
        /** Where the next state goes; the newest one stands ahead of it, in a ring. */
        private int next;
        private int many;

        History() {
            for (int i = 0; i < DEPTH; i++) {
                past[i] = new Grammar();
            }
            for (int i = 0; i < SLOTS; i++) {
                kept[i] = new Grammar();
            }
        }

        int manyPast() {
            return many;
        }

        void remember(Grammar grammar) {
            past[next].takeFrom(grammar);
            next = next + 1 < DEPTH ? next + 1 : 0;
            many = Math.min(many + 1, DEPTH);
        }

        void goBack(Grammar grammar) {
            if (many > 0) {
                next = next > 0 ? next - 1 : DEPTH - 1;
                many--;
                grammar.takeFrom(past[next]);
            }
        }

        void forgetPast() {
            many = 0;
        }

        void keep(int slot, Grammar grammar) {
            if (slot >= 0 && slot < SLOTS) {
                kept[slot].takeFrom(grammar);
                isKept[slot] = true;
            }
        }

        boolean hasKept(int slot) {
            return slot >= 0 && slot < SLOTS && isKept[slot];
        }

        void bringBack(int slot, Grammar grammar) {
            if (hasKept(slot)) {
                grammar.takeFrom(kept[slot]);
            }
        }

        void forgetSaved() {
            for (int i = 0; i < SLOTS; i++) {
                isKept[i] = false;
            }
        }
    }

    /** The latest report; its room grows when a longer one is written. */
    private static final class Report {
        /** More than 41 rows of 400 SYMBOLS with their heads can have. */
        private static final int MOST = 131072;

        private byte[] bytes = new byte[64];
        private int many;

        int many() {
            return many;
        }

        int at(int place) {
            return place >= 0 && place < many ? bytes[place] : NONE;
        }

        void writeOf(Grammar grammar) {
            many = 0;
            putRow(grammar.startRow());
            for (int rule = 0; rule < RULES; rule++) {
                if (grammar.hasRule(rule)) {
                    put(' ');
                    putNumber(rule);
                    put('=');
                    putRow(grammar.body(rule));
                }
            }
        }

        private void putRow(Row row) {
            for (int i = 0; i < row.many(); i++) {
                int symbol = row.at(i);
                if (symbol < ALPHABET) {
                    put('a' + symbol);
                } else {
                    put('(');
                    putNumber(symbol - ALPHABET);
                    put(')');
                }
            }
        }

        private void putNumber(int number) {
            if (number > 9) {
                put('0' + number / 10);
            }
            put('0' + number % 10);
        }

        private void put(int one) {
            if (many >= bytes.length && bytes.length < MOST) {
                byte[] wider = new byte[2 * bytes.length];
                System.arraycopy(bytes, 0, wider, 0, many);
                bytes = wider;
            }
            if (many < bytes.length) {
                bytes[many] = (byte) one;
                many++;
            }
        }
    }
}
