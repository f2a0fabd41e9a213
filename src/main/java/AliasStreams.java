/**
 * A coder for sequences of symbols that keeps what it has seen in two whole numbers.
 *
 * The object holds all its rows from the start and uses them again, so that no call makes anything.
 */
public final class AliasStreams {
    public static final int NONE = -9;

    private static final int MAX_SYMBOLS = 8;
    private static final int MAX_MODELS = 3;
    private static final int MAX_COUNT = 99;
    private static final int ALL_COUNTS = MAX_MODELS * MAX_SYMBOLS;
    private static final int SLOTS = 32;
    private static final int BUCKETS = 8;
    private static final int BUCKET_SIZE = 4;
    private static final int LEAST_STATE = 512;
    private static final int GREATEST_STATE = 8191;
    private static final int STATES = GREATEST_STATE - LEAST_STATE + 1;
    private static final int PUT_LIMIT = 256;
    private static final int BASE = 16;
    private static final int HEADS = 2;
    private static final int DIGITS_PER_SYMBOL = 2;
    private static final int MAX_ITEMS = 40;
    private static final int MAX_DIGITS = DIGITS_PER_SYMBOL * MAX_ITEMS;
    private static final int FIRST_CHANGE = 10;
    private static final int MAX_TEXT = 100;
    private static final int MAX_CHARACTER = 255;
    private static final int MAX_REMEMBERED = 14;
    private static final int SAVE_SLOTS = 2;
    private static final int MAX_FACTORS = 12;
    private static final int MAX_COMMANDS = 4;
    private static final int MAX_CHANGES = 40;

    private final Text text = new Text();
    private final Models models = new Models();
    private final State now = new State();
    private final History history = new History();
    private final Saves saves = new Saves();
    private final Symbols symbols = new Symbols();
    private final Taking taking = new Taking();
    private final Taking otherTaking = new Taking();
    private final Tape trialTape = new Tape();
    private final Script commands = new Script();

    public AliasStreams() {
        now.counts[0] = 1;
        now.counts[1] = 1;
        models.makeAll(now.counts);
    }

    // ---- text

    public int append(int c) throws IllegalArgumentException, IllegalStateException {
        if (c < 0 || c > MAX_CHARACTER) {
            throw new IllegalArgumentException("not a character code");
        }
        if (text.length >= MAX_TEXT) {
            throw new IllegalStateException("the text is full");
        }
        text.add(c);
        return text.length;
    }

    public int clearText() {
        int previous = text.length;
        text.length = 0;
        return previous;
    }

    public int errorPosition() {
        return text.read();
    }

    public int load() throws IllegalStateException {
        if (text.read() != NONE) {
            throw new IllegalStateException("the text has an error");
        }
        models.symbolCount = text.symbolCount;
        models.modelCount = text.modelCount;
        now.begin(text);
        models.makeAll(now.counts);
        history.forget();
        saves.empty();
        return now.itemCount;
    }

    // ---- what there is

    public int about(int what) throws IllegalArgumentException {
        switch (what) {
            case 0:
                return models.symbolCount;
            case 1:
                return models.modelCount;
            case 2:
                return now.itemCount;
            case 3:
                symbols.list(now);
                return symbols.count;
            case 4:
                return now.tape.digitCount;
            case 5:
                return now.tape.planLength;
            case 6:
                taking.takeAll(now.tape, models);
                return taking.intact ? 1 : 0;
            default:
                throw new IllegalArgumentException("what is not 0 to 6");
        }
    }

    public int symbol(int m, int s, int what) throws IndexOutOfBoundsException, IllegalArgumentException {
        if (!models.hasModel(m) || !models.hasSymbol(s)) {
            throw new IndexOutOfBoundsException("no such model or symbol");
        }
        if (what < 0 || what > 1) {
            throw new IllegalArgumentException("what is not 0 or 1");
        }
        return what == 0 ? now.countOf(m, s) : models.of(m).frequencyOf(s);
    }

    public int bucket(int m, int b, int what) throws IndexOutOfBoundsException, IllegalArgumentException {
        if (!models.hasModel(m) || b < 0 || b >= BUCKETS) {
            throw new IndexOutOfBoundsException("no such model or bucket");
        }
        if (what < 0 || what > 1) {
            throw new IllegalArgumentException("what is not 0 or 1");
        }
        Model model = models.of(m);
        return what == 0 ? model.rest[b] : model.alias[b];
    }

    public int slot(int m, int k, int what) throws IndexOutOfBoundsException, IllegalArgumentException {
        if (!models.hasModel(m) || k < 0 || k >= SLOTS) {
            throw new IndexOutOfBoundsException("no such model or slot");
        }
        if (what < 0 || what > 1) {
            throw new IllegalArgumentException("what is not 0 or 1");
        }
        Model model = models.of(m);
        return what == 0 ? model.slotSymbol[k] : model.slotIndex[k];
    }

    public int item(int i) throws IndexOutOfBoundsException {
        if (!now.hasItem(i)) {
            throw new IndexOutOfBoundsException("no such item");
        }
        return now.items[i];
    }

    public int tape(int what, int k) throws IllegalArgumentException, IndexOutOfBoundsException {
        if (what < 0 || what > 2) {
            throw new IllegalArgumentException("what is not 0 to 2");
        }
        Tape tape = now.tape;
        if (what == 0 && tape.hasDigit(k)) {
            return tape.digits[k];
        }
        if (what == 1 && tape.hasPlanned(k)) {
            return tape.plan[k];
        }
        if (what == 2 && isHead(k)) {
            return tape.heads[k];
        }
        throw new IndexOutOfBoundsException("no such digit, symbol of the plan, or head");
    }

    // ---- actions

    public int setCount(int m, int s, int c)
            throws IndexOutOfBoundsException, IllegalArgumentException, IllegalStateException {
        if (!models.hasModel(m) || !models.hasSymbol(s)) {
            throw new IndexOutOfBoundsException("no such model or symbol");
        }
        if (c < 0 || c > MAX_COUNT) {
            throw new IllegalArgumentException("not a count");
        }
        int previous = now.countOf(m, s);
        if (now.sumOfCounts(m) - previous + c == 0) {
            throw new IllegalStateException("all counts would be 0");
        }
        history.remember(now);
        now.changeCount(m, s, c);
        models.makeAll(now.counts);
        return previous;
    }

    public int insert(int i, int item)
            throws IndexOutOfBoundsException, IllegalArgumentException, IllegalStateException {
        if (i < 0 || i > now.itemCount) {
            throw new IndexOutOfBoundsException("no such place");
        }
        if (!models.allowItem(item)) {
            throw new IllegalArgumentException("neither a symbol nor a change");
        }
        if (now.itemCount >= MAX_ITEMS) {
            throw new IllegalStateException("the message is full");
        }
        history.remember(now);
        now.addItem(i, item);
        return now.itemCount;
    }

    public int remove(int i) throws IndexOutOfBoundsException {
        if (!now.hasItem(i)) {
            throw new IndexOutOfBoundsException("no such item");
        }
        int previous = now.items[i];
        history.remember(now);
        now.dropItem(i);
        return previous;
    }

    public int encode() throws IllegalStateException {
        symbols.list(now);
        if (symbols.firstUnfit(models) != NONE) {
            throw new IllegalStateException("a symbol has the frequency 0");
        }
        history.remember(now);
        now.tape.fill(symbols, models);
        return now.tape.digitCount;
    }

    public int decode() throws IllegalStateException {
        taking.takeAll(now.tape, models);
        if (taking.failedAt != NONE || now.tape.itemsNeeded() > MAX_ITEMS) {
            throw new IllegalStateException("the tape fails, or has too many items");
        }
        history.remember(now);
        now.takeMessage(taking);
        return now.itemCount;
    }

    public int setDigit(int k, int v) throws IndexOutOfBoundsException, IllegalArgumentException {
        if (!now.tape.hasDigit(k)) {
            throw new IndexOutOfBoundsException("no such digit");
        }
        if (!isDigit(v)) {
            throw new IllegalArgumentException("not a digit");
        }
        int previous = now.tape.digits[k];
        history.remember(now);
        now.tape.digits[k] = v;
        return previous;
    }

    public int setHead(int h, int x) throws IndexOutOfBoundsException, IllegalArgumentException {
        if (!isHead(h)) {
            throw new IndexOutOfBoundsException("no such head");
        }
        if (x < LEAST_STATE || x > GREATEST_STATE) {
            throw new IllegalArgumentException("not a state");
        }
        int previous = now.tape.heads[h];
        history.remember(now);
        now.tape.heads[h] = x;
        return previous;
    }

    public int setPlan(int k, int m) throws IndexOutOfBoundsException {
        if (!now.tape.hasPlanned(k) || !models.hasModel(m)) {
            throw new IndexOutOfBoundsException("no such symbol of the plan, or model");
        }
        int previous = now.tape.plan[k];
        history.remember(now);
        now.tape.plan[k] = m;
        return previous;
    }

    public int undo() throws IllegalStateException {
        if (history.count <= 0) {
            throw new IllegalStateException("no state is remembered");
        }
        history.giveBack(now);
        models.makeAll(now.counts);
        return history.count;
    }

    // ---- taking and comparing

    public int taken(int k, int what) throws IndexOutOfBoundsException, IllegalArgumentException {
        if (!now.tape.hasPlanned(k)) {
            throw new IndexOutOfBoundsException("no such symbol of the plan");
        }
        if (what < 0 || what > 3) {
            throw new IllegalArgumentException("what is not 0 to 3");
        }
        taking.takeAll(now.tape, models);
        switch (what) {
            case 0:
                return taking.symbols[k];
            case 1:
                return taking.statesBefore[k];
            case 2:
                return taking.digitsBefore[k];
            default:
                return taking.digitsRemoved[k];
        }
    }

    public int failure() {
        taking.takeAll(now.tape, models);
        return taking.failedAt;
    }

    public int unfit() {
        symbols.list(now);
        return symbols.firstUnfit(models);
    }

    public int digitsWith(int m) throws IndexOutOfBoundsException {
        if (!models.hasModel(m)) {
            throw new IndexOutOfBoundsException("no such model");
        }
        symbols.list(now);
        symbols.useOneModel(m);
        if (symbols.firstUnfit(models) != NONE) {
            return NONE;
        }
        trialTape.fill(symbols, models);
        return trialTape.digitCount;
    }

    public long product(int m, int k, int n) throws IndexOutOfBoundsException, IllegalArgumentException {
        symbols.list(now);
        if (!models.hasModel(m) || !symbols.has(k)) {
            throw new IndexOutOfBoundsException("no such model or symbol of the message");
        }
        if (n < 1 || n > MAX_FACTORS) {
            throw new IllegalArgumentException("n is not 1 to 12");
        }
        return symbols.multiply(models.of(m), k, n);
    }

    public int bestModel(int k, int n) throws IndexOutOfBoundsException, IllegalArgumentException {
        symbols.list(now);
        if (!symbols.has(k)) {
            throw new IndexOutOfBoundsException("no such symbol of the message");
        }
        if (n < 1 || n > MAX_FACTORS) {
            throw new IllegalArgumentException("n is not 1 to 12");
        }
        int best = 0;
        long greatest = symbols.multiply(models.of(0), k, n);
        for (int m = 1; m < models.modelCount; m++) {
            long found = symbols.multiply(models.of(m), k, n);
            if (found > greatest) {
                best = m;
                greatest = found;
            }
        }
        return best;
    }

    public int difference() {
        symbols.list(now);
        taking.takeAll(now.tape, models);
        for (int k = 0; k < MAX_ITEMS; k++) {
            int inMessage = symbols.has(k) ? symbols.symbols[k] : NONE;
            if (inMessage != taking.symbols[k]) {
                return k;
            }
        }
        return NONE;
    }

    public int effect(int k, int v, int what) throws IndexOutOfBoundsException, IllegalArgumentException {
        if (!now.tape.hasDigit(k)) {
            throw new IndexOutOfBoundsException("no such digit");
        }
        if (!isDigit(v) || what < 0 || what > 1) {
            throw new IllegalArgumentException("not a digit, or what is not 0 or 1");
        }
        trialTape.copyFrom(now.tape);
        trialTape.digits[k] = v;
        otherTaking.takeAll(trialTape, models);
        if (what == 1) {
            return otherTaking.intact ? 1 : 0;
        }
        taking.takeAll(now.tape, models);
        return taking.countOtherSymbols(otherTaking);
    }

    // ---- scripts, simulations

    public int runScript(int n, long script) throws IllegalArgumentException {
        if (n < 1 || n > MAX_COMMANDS) {
            throw new IllegalArgumentException("n is not 1 to 4");
        }
        if (script < 0 || script >= Script.GROUP_VALUES[n]) {
            throw new IllegalArgumentException("script is negative or too long");
        }
        return commands.run(now, models, n, script);
    }

    public int simulate(long seed, int m) throws IllegalArgumentException {
        if (m < 1 || m > MAX_CHANGES) {
            throw new IllegalArgumentException("m is not 1 to 40");
        }
        int sum = 0;
        long x = seed;
        for (int change = 0; change < m; change++) {
            x = x * 6364136223846793005L + 1442695040888963407L;
            trialTape.copyFrom(now.tape);
            trialTape.disturb((int) (x >>> 33));
            taking.takeAll(trialTape, models);
            if (taking.intact) {
                sum += 1;
            } else if (taking.failedAt != NONE) {
                sum += 100;
            }
        }
        return sum;
    }

    // ---- save slots

    public int save(int slot) throws IndexOutOfBoundsException {
        if (!isSaveSlot(slot)) {
            throw new IndexOutOfBoundsException("no such save slot");
        }
        saves.states[slot].copyFrom(now);
        saves.used[slot] = true;
        return now.itemCount;
    }

    public int restore(int slot) throws IndexOutOfBoundsException, IllegalStateException {
        if (!isSaveSlot(slot)) {
            throw new IndexOutOfBoundsException("no such save slot");
        }
        if (!saves.used[slot]) {
            throw new IllegalStateException("nothing has been saved there");
        }
        now.copyFrom(saves.states[slot]);
        models.makeAll(now.counts);
        history.forget();
        return now.itemCount;
    }

    private static boolean isHead(int h) {
        return h >= 0 && h < HEADS;
    }

    private static boolean isDigit(int v) {
        return v >= 0 && v < BASE;
    }

    private static boolean isSaveSlot(int slot) {
        return slot >= 0 && slot < SAVE_SLOTS;
    }

    /** The text buffer, and what its last reading found. */
    private static final class Text {
        private static final int END = -1;

        private final int[] characters = new int[MAX_TEXT];
        private final int[] counts = new int[ALL_COUNTS];
        private final int[] items = new int[MAX_ITEMS];
        private int length;
        private int symbolCount;
        private int modelCount;
        private int itemCount;
        private int place;

        private void add(int c) {
            if (length >= 0 && length < MAX_TEXT) {
                characters[length] = c;
                length++;
            }
        }

        /** The error position, NONE if there is none. A part that is refused leaves its place there. */
        private int read() {
            place = 0;
            symbolCount = 0;
            modelCount = 0;
            itemCount = 0;
            for (int i = 0; i < ALL_COUNTS; i++) {
                counts[i] = 0;
            }
            return readSize() && readModels() && readItems() ? NONE : place;
        }

        private int here() {
            return place >= 0 && place < length && place < MAX_TEXT ? characters[place] : END;
        }

        private int digitHere() {
            int c = here();
            return c >= '0' && c <= '9' ? c - '0' : NONE;
        }

        private boolean readSize() {
            if (here() != 'A') {
                return false;
            }
            place++;
            symbolCount = digitHere();
            if (symbolCount < 2 || symbolCount > MAX_SYMBOLS) {
                return false;
            }
            place++;
            return true;
        }

        private boolean readModels() {
            for (int m = 0; m < MAX_MODELS && here() == 'm'; m++) {
                place++;
                if (!readCounts(m)) {
                    return false;
                }
                modelCount++;
            }
            return modelCount > 0;
        }

        private boolean readCounts(int m) {
            int sum = 0;
            for (int s = 0; s < symbolCount && s < MAX_SYMBOLS; s++) {
                int tens = digitHere();
                if (tens == NONE) {
                    return false;
                }
                place++;
                int ones = digitHere();
                if (ones == NONE) {
                    return false;
                }
                int count = 10 * tens + ones;
                sum += count;
                if (s == symbolCount - 1 && sum == 0) {
                    return false;
                }
                place++;
                counts[m * MAX_SYMBOLS + s] = count;
            }
            return true;
        }

        private boolean readItems() {
            if (here() == END) {
                return true;
            }
            if (here() != ':') {
                return false;
            }
            place++;
            for (int i = 0; i < MAX_ITEMS; i++) {
                int value = itemHere();
                if (value == NONE) {
                    break;
                }
                items[i] = value;
                itemCount = i + 1;
                place++;
            }
            return itemCount > 0 && here() == END;
        }

        private int itemHere() {
            int c = here();
            if (c >= 'a' && c < 'a' + symbolCount) {
                return c - 'a';
            }
            if (c >= '0' && c < '0' + modelCount) {
                return FIRST_CHANGE + c - '0';
            }
            return NONE;
        }
    }

    /** What follows from the counts of one model: its frequencies, buckets and slots. */
    private static final class Model {
        private final int[] frequency = new int[MAX_SYMBOLS];
        private final int[] remainder = new int[MAX_SYMBOLS];
        private final int[] rest = new int[BUCKETS];
        private final int[] alias = new int[BUCKETS];
        private final boolean[] open = new boolean[BUCKETS];
        private final int[] slotSymbol = new int[SLOTS];
        private final int[] slotIndex = new int[SLOTS];
        private final int[] slotOfIndex = new int[MAX_SYMBOLS * SLOTS];
        private final int[] slotsSeen = new int[MAX_SYMBOLS];

        private int frequencyOf(int s) {
            return s >= 0 && s < MAX_SYMBOLS ? frequency[s] : 0;
        }

        /** The slot of symbol s with this index. */
        private int slotOf(int s, int index) {
            boolean known = s >= 0 && s < MAX_SYMBOLS && index >= 0 && index < SLOTS;
            return known ? slotOfIndex[s * SLOTS + index] : 0;
        }

        /** Symbols that there are not have the count 0, and so need no care here. */
        private void make(int[] counts, int m) {
            int total = 0;
            for (int s = 0; s < MAX_SYMBOLS; s++) {
                total += countIn(counts, m, s);
            }
            if (total <= 0) {
                return;
            }
            int sum = shareOut(counts, m, total);
            for (int given = sum; given < SLOTS; given++) {
                giveOne();
            }
            for (int given = sum; given > SLOTS; given--) {
                takeOne();
            }
            closeBuckets();
            numberSlots();
        }

        private int shareOut(int[] counts, int m, int total) {
            int sum = 0;
            for (int s = 0; s < MAX_SYMBOLS; s++) {
                frequency[s] = 0;
                remainder[s] = NONE;
                int share = SLOTS * countIn(counts, m, s);
                if (share > 0 && total > 0) {
                    frequency[s] = Math.max(1, share / total);
                    remainder[s] = share % total;
                }
                sum += frequency[s];
            }
            return sum;
        }

        private void giveOne() {
            int best = NONE;
            int greatest = NONE;
            for (int s = 0; s < MAX_SYMBOLS; s++) {
                if (remainder[s] > greatest) {
                    best = s;
                    greatest = remainder[s];
                }
            }
            if (best >= 0) {
                frequency[best]++;
                remainder[best] = NONE;
            }
        }

        private void takeOne() {
            int best = 0;
            for (int s = 1; s < MAX_SYMBOLS; s++) {
                if (frequency[s] >= frequency[best]) {
                    best = s;
                }
            }
            frequency[best]--;
        }

        private void closeBuckets() {
            for (int b = 0; b < BUCKETS; b++) {
                rest[b] = frequency[b];
                alias[b] = NONE;
                open[b] = true;
            }
            for (int step = 0; step < BUCKETS; step++) {
                closeOne();
            }
        }

        private void closeOne() {
            int b = firstToClose();
            if (b < 0) {
                return;
            }
            open[b] = false;
            int missing = BUCKET_SIZE - rest[b];
            int giver = fullestOpen();
            if (missing > 0 && giver >= 0) {
                alias[b] = giver;
                rest[giver] -= missing;
            }
        }

        private int firstToClose() {
            for (int b = 0; b < BUCKETS; b++) {
                if (open[b] && rest[b] <= BUCKET_SIZE) {
                    return b;
                }
            }
            return NONE;
        }

        private int fullestOpen() {
            int best = NONE;
            int greatest = NONE;
            for (int b = 0; b < BUCKETS; b++) {
                if (open[b] && rest[b] > greatest) {
                    best = b;
                    greatest = rest[b];
                }
            }
            return best;
        }

        private void numberSlots() {
            for (int s = 0; s < MAX_SYMBOLS; s++) {
                slotsSeen[s] = 0;
            }
            for (int k = 0; k < SLOTS; k++) {
                int b = k / BUCKET_SIZE;
                int s = k % BUCKET_SIZE < rest[b] ? b : alias[b];
                if (s >= 0 && s < MAX_SYMBOLS) {
                    int index = slotsSeen[s];
                    slotSymbol[k] = s;
                    slotIndex[k] = index;
                    slotsSeen[s]++;
                    enterSlot(s, index, k);
                }
            }
        }

        private void enterSlot(int s, int index, int k) {
            if (s >= 0 && s < MAX_SYMBOLS && index >= 0 && index < SLOTS) {
                slotOfIndex[s * SLOTS + index] = k;
            }
        }
    }

    /** How many symbols and models there are, and the tables of the models. */
    private static final class Models {
        private final Model[] tables = new Model[MAX_MODELS];
        private int symbolCount = 2;
        private int modelCount = 1;

        private Models() {
            for (int m = 0; m < MAX_MODELS; m++) {
                tables[m] = new Model();
            }
        }

        private boolean hasSymbol(int s) {
            return s >= 0 && s < symbolCount;
        }

        private boolean hasModel(int m) {
            return m >= 0 && m < modelCount;
        }

        private boolean allowItem(int value) {
            return hasSymbol(value) || value >= FIRST_CHANGE && hasModel(value - FIRST_CHANGE);
        }

        private Model of(int m) {
            return tables[m >= 0 && m < MAX_MODELS ? m : 0];
        }

        private void makeAll(int[] counts) {
            for (int m = 0; m < MAX_MODELS; m++) {
                tables[m].make(counts, m);
            }
        }
    }

    /** The digits, the heads and the plan. */
    private static final class Tape {
        private final int[] plan = new int[MAX_ITEMS];
        private final int[] digits = new int[MAX_DIGITS];
        private final int[] heads = {LEAST_STATE, LEAST_STATE};
        private int planLength;
        private int digitCount;

        private boolean hasPlanned(int k) {
            return k >= 0 && k < planLength && k < MAX_ITEMS;
        }

        private boolean hasDigit(int k) {
            return k >= 0 && k < digitCount && k < MAX_DIGITS;
        }

        private void becomeEmpty() {
            planLength = 0;
            digitCount = 0;
            heads[0] = LEAST_STATE;
            heads[1] = LEAST_STATE;
        }

        private void copyFrom(Tape other) {
            System.arraycopy(other.plan, 0, plan, 0, MAX_ITEMS);
            System.arraycopy(other.digits, 0, digits, 0, MAX_DIGITS);
            System.arraycopy(other.heads, 0, heads, 0, HEADS);
            planLength = other.planLength;
            digitCount = other.digitCount;
        }

        /** The caller has seen that no symbol is unfit. */
        private void fill(Symbols message, Models models) {
            becomeEmpty();
            for (int k = Math.min(message.count, MAX_ITEMS) - 1; k >= 0; k--) {
                plan[k] = message.models[k];
                putSymbol(models.of(message.models[k]), message.symbols[k], k % HEADS);
            }
            planLength = message.count;
        }

        private void putSymbol(Model model, int s, int h) {
            int f = model.frequencyOf(s);
            if (f <= 0 || !isHead(h)) {
                return;
            }
            int x = heads[h];
            for (int step = 0; step < DIGITS_PER_SYMBOL && x >= PUT_LIMIT * f; step++) {
                writeDigit(x % BASE);
                x = x / BASE;
            }
            heads[h] = SLOTS * (x / f) + model.slotOf(s, x % f);
        }

        private void writeDigit(int v) {
            if (digitCount >= 0 && digitCount < MAX_DIGITS) {
                digits[digitCount] = v;
                digitCount++;
            }
        }

        /** How many items a message has that is made of this tape. */
        private int itemsNeeded() {
            int needed = 0;
            int model = 0;
            for (int k = 0; k < planLength && k < MAX_ITEMS; k++) {
                needed += plan[k] == model ? 1 : 2;
                model = plan[k];
            }
            return needed;
        }

        /** One change of a simulation; r is not negative. */
        private void disturb(int r) {
            if (digitCount > 0) {
                int k = r / BASE % digitCount;
                if (hasDigit(k)) {
                    digits[k] = r % BASE;
                }
            } else if (isHead(r % HEADS)) {
                heads[r % HEADS] = LEAST_STATE + r / 2 % STATES;
            }
        }
    }

    /** What the actions change and undo brings back: the counts, the message and the tape. */
    private static final class State {
        private final int[] counts = new int[ALL_COUNTS];
        private final int[] items = new int[MAX_ITEMS];
        private final Tape tape = new Tape();
        private int itemCount;

        private void copyFrom(State other) {
            System.arraycopy(other.counts, 0, counts, 0, ALL_COUNTS);
            System.arraycopy(other.items, 0, items, 0, MAX_ITEMS);
            itemCount = other.itemCount;
            tape.copyFrom(other.tape);
        }

        private void begin(Text text) {
            System.arraycopy(text.counts, 0, counts, 0, ALL_COUNTS);
            System.arraycopy(text.items, 0, items, 0, MAX_ITEMS);
            itemCount = text.itemCount;
            tape.becomeEmpty();
        }

        private int countOf(int m, int s) {
            return countIn(counts, m, s);
        }

        private int sumOfCounts(int m) {
            int sum = 0;
            for (int s = 0; s < MAX_SYMBOLS; s++) {
                sum += countIn(counts, m, s);
            }
            return sum;
        }

        private void changeCount(int m, int s, int c) {
            if (isCountPlace(m, s)) {
                counts[m * MAX_SYMBOLS + s] = c;
            }
        }

        private boolean hasItem(int i) {
            return i >= 0 && i < itemCount && i < MAX_ITEMS;
        }

        private void addItem(int i, int value) {
            if (i < 0 || i > itemCount || itemCount >= MAX_ITEMS) {
                return;
            }
            for (int j = itemCount; j > i; j--) {
                items[j] = items[j - 1];
            }
            items[i] = value;
            itemCount++;
        }

        private void dropItem(int i) {
            if (!hasItem(i)) {
                return;
            }
            for (int j = i; j < itemCount - 1 && j < MAX_ITEMS - 1; j++) {
                items[j] = items[j + 1];
            }
            itemCount--;
        }

        /** The caller has seen that the tape does not fail and that its items find room. */
        private void takeMessage(Taking taking) {
            itemCount = 0;
            int model = 0;
            for (int k = 0; k < tape.planLength && k < MAX_ITEMS; k++) {
                if (tape.plan[k] != model) {
                    model = tape.plan[k];
                    addItem(itemCount, FIRST_CHANGE + model);
                }
                addItem(itemCount, taking.symbols[k]);
            }
        }
    }

    private static boolean isCountPlace(int m, int s) {
        return m >= 0 && m < MAX_MODELS && s >= 0 && s < MAX_SYMBOLS;
    }

    private static int countIn(int[] counts, int m, int s) {
        int place = m * MAX_SYMBOLS + s;
        return isCountPlace(m, s) && place < counts.length ? counts[place] : 0;
    }

    /** The symbols of a message, without its changes, each with its model. */
    private static final class Symbols {
        private final int[] symbols = new int[MAX_ITEMS];
        private final int[] models = new int[MAX_ITEMS];
        private int count;

        private void list(State state) {
            count = 0;
            int found = 0;
            int model = 0;
            for (int i = 0; i < state.itemCount && i < MAX_ITEMS; i++) {
                int value = state.items[i];
                if (value >= FIRST_CHANGE) {
                    model = value - FIRST_CHANGE;
                } else if (found < MAX_ITEMS) {
                    symbols[found] = value;
                    models[found] = model;
                    found++;
                }
            }
            count = found;
        }

        private boolean has(int k) {
            return k >= 0 && k < count && k < MAX_ITEMS;
        }

        private void useOneModel(int m) {
            for (int k = 0; k < MAX_ITEMS; k++) {
                models[k] = m;
            }
        }

        private int firstUnfit(Models all) {
            for (int k = 0; k < count && k < MAX_ITEMS; k++) {
                if (all.of(models[k]).frequencyOf(symbols[k]) == 0) {
                    return k;
                }
            }
            return NONE;
        }

        private long multiply(Model model, int first, int n) {
            long result = 1;
            for (int i = 0; i < n && i < MAX_FACTORS; i++) {
                if (has(first + i)) {
                    result *= model.frequencyOf(symbols[first + i]);
                }
            }
            return result;
        }
    }

    /** What comes out when a tape is taken; a number that is not there is NONE. */
    private static final class Taking {
        private final int[] symbols = new int[MAX_ITEMS];
        private final int[] statesBefore = new int[MAX_ITEMS];
        private final int[] digitsBefore = new int[MAX_ITEMS];
        private final int[] digitsRemoved = new int[MAX_ITEMS];
        private final int[] heads = new int[HEADS];
        private int digitsLeft;
        private int failedAt;
        private boolean intact;

        /** Taking only removes from the tape's end, so a number of digits and two heads stand for the copy. */
        private void takeAll(Tape tape, Models models) {
            for (int k = 0; k < MAX_ITEMS; k++) {
                symbols[k] = NONE;
                statesBefore[k] = NONE;
                digitsBefore[k] = NONE;
                digitsRemoved[k] = NONE;
            }
            heads[0] = tape.heads[0];
            heads[1] = tape.heads[1];
            digitsLeft = tape.digitCount;
            failedAt = NONE;
            for (int k = 0; k < tape.planLength && k < MAX_ITEMS && failedAt == NONE; k++) {
                takeSymbol(tape, models.of(tape.plan[k]), k);
            }
            intact = failedAt == NONE && digitsLeft == 0
                    && heads[0] == LEAST_STATE && heads[1] == LEAST_STATE;
        }

        private void takeSymbol(Tape tape, Model model, int k) {
            if (k < 0 || k >= MAX_ITEMS) {
                return;
            }
            int x = heads[k % HEADS];
            statesBefore[k] = x;
            digitsBefore[k] = digitsLeft;
            int slot = x % SLOTS;
            if (slot < 0) {
                return;
            }
            int s = model.slotSymbol[slot];
            x = model.frequencyOf(s) * (x / SLOTS) + model.slotIndex[slot];
            for (int step = 0; step < DIGITS_PER_SYMBOL && x < LEAST_STATE; step++) {
                if (!tape.hasDigit(digitsLeft - 1)) {
                    failedAt = k;
                    return;
                }
                digitsLeft--;
                x = BASE * x + tape.digits[digitsLeft];
            }
            symbols[k] = s;
            digitsRemoved[k] = digitsBefore[k] - digitsLeft;
            heads[k % HEADS] = x;
        }

        private int countOtherSymbols(Taking other) {
            int found = 0;
            for (int k = 0; k < MAX_ITEMS; k++) {
                if (symbols[k] != other.symbols[k]) {
                    found++;
                }
            }
            return found;
        }
    }

    /** The remembered states, in a ring of rows: the newest one is before the next place. */
    private static final class History {
        private final State[] states = new State[MAX_REMEMBERED];
        private int next;
        private int count;

        private History() {
            for (int i = 0; i < MAX_REMEMBERED; i++) {
                states[i] = new State();
            }
        }

        private void forget() {
            count = 0;
        }

        private void remember(State state) {
            states[placeInRing(next)].copyFrom(state);
            next = placeInRing(next + 1);
            count = Math.min(count + 1, MAX_REMEMBERED);
        }

        private void giveBack(State state) {
            next = placeInRing(next - 1);
            state.copyFrom(states[next]);
            count--;
        }

        private static int placeInRing(int i) {
            return Math.floorMod(i, MAX_REMEMBERED);
        }
    }

    /** The save slots. */
    private static final class Saves {
        private final State[] states = {new State(), new State()};
        private final boolean[] used = new boolean[SAVE_SLOTS];

        private void empty() {
            used[0] = false;
            used[1] = false;
        }
    }

    /** Runs commands on a copy of the state; the counts stay, so the models' tables hold for the copy too. */
    private static final class Script {
        private static final long[] GROUP_VALUES = {
            1L, 10_000L, 100_000_000L, 1_000_000_000_000L, 10_000_000_000_000_000L
        };

        private final State copy = new State();
        private final Symbols symbols = new Symbols();
        private final Taking taking = new Taking();

        private int run(State state, Models models, int n, long script) {
            copy.copyFrom(state);
            for (int i = 0; i < n && i < MAX_COMMANDS; i++) {
                int group = groupOf(script, n - 1 - i);
                if (!execute(group, models)) {
                    return i;
                }
            }
            return NONE;
        }

        private static int groupOf(long script, int place) {
            if (place < 0 || place >= MAX_COMMANDS) {
                return 0;
            }
            long value = GROUP_VALUES[place];
            return value > 0 ? (int) (script / value % 10_000L) : 0;
        }

        private boolean execute(int group, Models models) {
            int second = group / 100 % 10;
            int lastTwo = group % 100;
            switch (group / 1000) {
                case 1:
                    return second == 0 && addLast(lastTwo, models);
                case 2:
                    return second == 0 && dropOne(lastTwo);
                case 3:
                    return second == 0 && lastTwo == 0 && fillTape(models);
                case 4:
                    return second == 0 && lastTwo == 0 && takeMessage(models);
                case 5:
                    return changeDigit(lastTwo, second);
                case 6:
                    return second == 0 && copy.tape.digitCount == lastTwo;
                case 7:
                    return second == 0 && lastTwo <= 1 && isIntact(models) == (lastTwo == 1);
                case 8:
                    return takes(lastTwo, second, models);
                default:
                    return false;
            }
        }

        private boolean addLast(int value, Models models) {
            if (!models.allowItem(value) || copy.itemCount >= MAX_ITEMS) {
                return false;
            }
            copy.addItem(copy.itemCount, value);
            return true;
        }

        private boolean dropOne(int i) {
            if (!copy.hasItem(i)) {
                return false;
            }
            copy.dropItem(i);
            return true;
        }

        private boolean fillTape(Models models) {
            symbols.list(copy);
            if (symbols.firstUnfit(models) != NONE) {
                return false;
            }
            copy.tape.fill(symbols, models);
            return true;
        }

        private boolean takeMessage(Models models) {
            taking.takeAll(copy.tape, models);
            if (taking.failedAt != NONE || copy.tape.itemsNeeded() > MAX_ITEMS) {
                return false;
            }
            copy.takeMessage(taking);
            return true;
        }

        private boolean changeDigit(int k, int v) {
            if (!copy.tape.hasDigit(k)) {
                return false;
            }
            copy.tape.digits[k] = v;
            return true;
        }

        private boolean isIntact(Models models) {
            taking.takeAll(copy.tape, models);
            return taking.intact;
        }

        private boolean takes(int k, int s, Models models) {
            taking.takeAll(copy.tape, models);
            return copy.tape.hasPlanned(k) && taking.symbols[k] == s;
        }
    }
}
