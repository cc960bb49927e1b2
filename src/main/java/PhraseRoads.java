import java.util.Arrays;
import java.util.NoSuchElementException;

/**
 * A translator by phrases. The document's words are used throughout: a PHRASE is told by its number, a
 * WORD by its number, a PLACE by its number; passing a WORD as it is has the number 99 among the options.
 */
public final class PhraseRoads {
    public static final int NONE = -1;

    private static final int MOST_BYTES = 400;
    private static final int FED_BYTES = 20;
    private static final int MOST_WORDS = 40;
    private static final int MOST_LETTERS = 8;
    private static final int MOST_DIGITS = 3;
    private static final int MOST_PHRASES = 30;
    private static final int MOST_PARTS = 3;
    private static final int MOST_PAIRS = 60;
    private static final int MOST_PLACES = 6;
    private static final int MOST_TOLD = 18;
    private static final int MOST_ENTRIES = 12;
    private static final int MOST_COST = 99;
    private static final int MOST_JUMP = 20;
    private static final int MOST_FAR = 6;
    private static final int MOST_WIDE = 40;
    private static final int MOST_WAYS = 30;
    private static final int MOST_AGREED = 10;
    private static final int MOST_COUNTED = 1000000000;

    private static final int PASSED = 99;
    private static final int LEARNED_COST = 10;
    private static final int UNLINKED_COST = 5;

    private static final int UNSEEN = 0;
    private static final int PASS = 1;
    private static final int JUMP = 2;
    private static final int FAR = 3;
    private static final int WIDE = 4;
    private static final int SETTINGS = 5;
    private static final int[] SETTING_LEAST = {0, 0, 0, 0, 1};
    private static final int[] SETTING_MOST = {99, 99, 20, 6, 40};

    /** THE BEGIN where the first of a pair stands, THE END where the second one stands. */
    private static final int EDGE = MOST_WORDS;
    private static final int SIDES = MOST_WORDS + 1;
    private static final int MASKS = 1 << MOST_PLACES;
    private static final int BEHINDS = MOST_PLACES + 1;
    private static final int TOLD_ENDS = MOST_TOLD + 1;
    private static final int MOST_OPTIONS = MOST_PLACES * (MOST_PHRASES + 1);
    /** A mask and the place behind its last step: 32 masks hold the place ahead of each, and one is empty. */
    private static final int MOST_KNOTS = (MASKS / 2 * MOST_PLACES + 1) * SIDES;
    /** Far above what any way can cost, and far below what an int can hold. */
    private static final int ENDLESS = 1000000;

    private static final int STEP_BITS = 8;
    private static final int STEP_MASK = 255;
    private static final int COST_SHIFT = STEP_BITS * MOST_PLACES;

    private final Knowledge kept = new Knowledge();
    private Knowledge now = new Knowledge();
    private Knowledge draft = new Knowledge();
    private final Reader reader = new Reader(now);
    private final Options options = new Options(now);
    private final Knots knots = new Knots(options);
    private final Ways ways = new Ways(options, knots);
    private final Stretches stretches = new Stretches(options);
    private final Stacks stacks = new Stacks(options, knots, stretches);
    private final Counting counting = new Counting(options);
    private final Likeness likeness = new Likeness();
    private boolean hasImage;
    private boolean optionsReady;
    private boolean waysReady;
    private boolean stacksReady;

    public PhraseRoads() {
    }

    public int feed(int a, int b, int c, int d, int e) {
        if (reader.length + FED_BYTES > MOST_BYTES) {
            return NONE;
        }
        reader.append(a);
        reader.append(b);
        reader.append(c);
        reader.append(d);
        reader.append(e);
        return reader.length;
    }

    public boolean end(int n) {
        if (n < 0 || n > reader.length) {
            return false;
        }
        reader.length = n;
        return true;
    }

    public int book() throws IllegalArgumentException {
        draft.copy(now);
        reader.readBook(draft);
        int came = draft.enterBook(reader);
        reader.length = 0;
        checkText();
        keepDraft();
        return came;
    }

    public int fluency() throws IllegalArgumentException {
        draft.copy(now);
        reader.readFluency(draft);
        draft.enterFluency(reader);
        reader.length = 0;
        checkText();
        keepDraft();
        return now.pairs;
    }

    public int sentence() throws IllegalArgumentException {
        draft.copy(now);
        reader.readRow(draft, true, MOST_PLACES);
        draft.enterSentence(reader);
        reader.length = 0;
        checkText();
        keepDraft();
        return now.size;
    }

    public int learn() throws IllegalArgumentException, UnsupportedOperationException {
        draft.copy(now);
        reader.readLesson(draft);
        int came = reader.isRight() ? Lesson.enter(draft, reader) : 0;
        reader.length = 0;
        checkText();
        if (came == NONE) {
            throw new UnsupportedOperationException("there would be too many phrases");
        }
        keepDraft();
        return came;
    }

    public int fault() {
        return reader.bad;
    }

    public int letter(int word, int k) throws IndexOutOfBoundsException {
        checkWord(word);
        if (k < 0 || k >= now.lengths[word]) {
            return NONE;
        }
        return now.letters[word * MOST_LETTERS + k] - 'a';
    }

    public int phrase(int phrase, int what) throws IndexOutOfBoundsException, NoSuchElementException {
        checkPhrase(phrase);
        switch (what) {
            case 0:
                return now.sourceSizes[phrase];
            case 1:
                return now.targetSizes[phrase];
            case 2:
                return now.costs[phrase];
            case 3:
                return now.gone[phrase] ? 1 : 0;
            case 4:
                prepareOptions();
                return options.howOften(phrase);
            case 5:
                unfoldWay(0);
                return worthOf(phrase);
            default:
                throw new NoSuchElementException("a phrase has no such number");
        }
    }

    public int part(int phrase, boolean target, int k) throws IndexOutOfBoundsException {
        checkPhrase(phrase);
        int size = target ? now.targetSizes[phrase] : now.sourceSizes[phrase];
        if (k < 0 || k >= size) {
            return NONE;
        }
        int at = phrase * MOST_PARTS + k;
        return target ? now.targets[at] : now.sources[at];
    }

    public int after(int first, int second) throws IndexOutOfBoundsException {
        if (first != NONE) {
            checkWord(first);
        }
        if (second != NONE) {
            checkWord(second);
        }
        return now.flow(first == NONE ? EDGE : first, second == NONE ? EDGE : second);
    }

    public int place(int place) throws IndexOutOfBoundsException {
        checkPlace(place);
        return now.places[place];
    }

    public int put(int place, int word) throws IndexOutOfBoundsException {
        checkPlace(place);
        checkWord(word);
        int was = now.places[place];
        now.places[place] = word;
        forgetOptions();
        return was;
    }

    public int price(int phrase, int n) throws IndexOutOfBoundsException, IllegalArgumentException {
        checkPhrase(phrase);
        if (n < 0 || n > MOST_COST) {
            throw new IllegalArgumentException("no such cost");
        }
        int was = now.costs[phrase];
        now.costs[phrase] = n;
        forgetOptions();
        return was;
    }

    public boolean drop(int phrase, boolean is) throws IndexOutOfBoundsException, IllegalArgumentException {
        checkPhrase(phrase);
        if (now.gone[phrase] == is) {
            return false;
        }
        if (!is && now.hasTwin(phrase)) {
            throw new IllegalArgumentException("another phrase of the same words is there");
        }
        now.gone[phrase] = is;
        forgetOptions();
        return true;
    }

    public int tune(int what, int n) throws NoSuchElementException, IllegalArgumentException {
        if (what < 0 || what >= SETTINGS) {
            throw new NoSuchElementException("no such thing to tune");
        }
        if (n < SETTING_LEAST[what] || n > SETTING_MOST[what]) {
            throw new IllegalArgumentException("out of its bounds");
        }
        int was = now.settings[what];
        now.settings[what] = n;
        if (what == UNSEEN || what == PASS) {
            forgetOptions();
        } else {
            forgetWays();
        }
        return was;
    }

    public int option(int place, int k) throws IndexOutOfBoundsException {
        checkPlace(place);
        prepareOptions();
        return options.numberAt(place, k);
    }

    public int stretch(int from, int to) throws IndexOutOfBoundsException, IllegalArgumentException {
        checkPlace(from);
        checkPlace(to);
        if (to < from) {
            throw new IllegalArgumentException("the second place is less");
        }
        prepareOptions();
        return stretches.costs[from * MOST_PLACES + to];
    }

    public int exact() {
        prepareOptions();
        prepareWays();
        return knots.cheapest();
    }

    public int many() {
        prepareOptions();
        return counting.countWays(now.settings[FAR]);
    }

    public int way(int k, int what) throws NoSuchElementException, IllegalArgumentException {
        if (what < 0 || what > 2) {
            throw new NoSuchElementException("a way has no such number");
        }
        checkWay(k);
        if (!unfoldWay(k)) {
            return NONE;
        }
        if (what == 0) {
            return ways.costOf(k);
        }
        return what == 1 ? ways.size : ways.textSize;
    }

    public int step(int k, int n, int what) throws NoSuchElementException, IllegalArgumentException {
        if (what < 0 || what > 2) {
            throw new NoSuchElementException("a step has no such number");
        }
        checkWay(k);
        if (!unfoldWay(k) || n < 0 || n >= ways.size) {
            return NONE;
        }
        if (what == 2) {
            return ways.stepCosts[n];
        }
        int option = ways.steps[n];
        return what == 0 ? options.starts[option] : options.numbers[option];
    }

    public int word(int k, int n) throws IllegalArgumentException {
        checkWay(k);
        if (!unfoldWay(k) || n < 0 || n >= ways.textSize) {
            return NONE;
        }
        return ways.text[n];
    }

    public int found(int what) throws NoSuchElementException {
        if (what < 0 || what > 4) {
            throw new NoSuchElementException("the stacks have no such number");
        }
        prepareStacks();
        switch (what) {
            case 0:
                return stacks.foundCost;
            case 1:
                return stacks.foundCost == NONE ? NONE : stacks.pathSize;
            case 2:
                return stacks.made;
            case 3:
                return stacks.merged;
            default:
                return stacks.cut;
        }
    }

    public int halves(int n, int what) throws NoSuchElementException {
        if (what < 0 || what > 1) {
            throw new NoSuchElementException("a step has no such number");
        }
        prepareStacks();
        if (n < 0 || n >= stacks.pathSize) {
            return NONE;
        }
        int option = stacks.path[n];
        return what == 0 ? options.starts[option] : options.numbers[option];
    }

    public int stack(int n, int what) throws IndexOutOfBoundsException, NoSuchElementException {
        if (n < 0 || n > now.size) {
            throw new IndexOutOfBoundsException("there is no such stack");
        }
        if (what < 0 || what > 1) {
            throw new NoSuchElementException("a stack has no such number");
        }
        prepareStacks();
        return what == 0 ? stacks.counts[n] : stacks.leasts[n];
    }

    public int forced() throws IllegalArgumentException {
        readTold();
        prepareOptions();
        return counting.cheapestTelling(reader.row, reader.rowSize, now.settings[JUMP], now.settings[FAR]);
    }

    public int near() throws IllegalArgumentException {
        readTold();
        unfoldWay(0);
        return likeness.apart(ways.text, ways.textSize, reader.row, reader.rowSize);
    }

    public int match(int n) throws IllegalArgumentException {
        if (n < 1 || n > MOST_PARTS) {
            reader.length = 0;
            throw new IllegalArgumentException("no such length of rows");
        }
        readTold();
        unfoldWay(0);
        return likeness.common(ways.text, ways.textSize, reader.row, reader.rowSize, n);
    }

    public int agreed(int n) throws IllegalArgumentException {
        if (n < 1 || n > MOST_AGREED) {
            throw new IllegalArgumentException("no such number of ways");
        }
        likeness.clear();
        for (int k = 0; k < n; k++) {
            if (unfoldWay(k)) {
                likeness.add(ways.text, ways.textSize);
            }
        }
        return likeness.middle();
    }

    public int needed() {
        int bits = 0;
        unfoldWay(0);
        int used = phrasesUnfolded();
        int exact = knots.cheapest();
        for (int phrase = 0; phrase < now.phrases; phrase++) {
            if ((used >> phrase & 1) != 0 && reckonOtherwise(now.settings[JUMP], now.settings[FAR], phrase) > exact) {
                bits |= 1 << phrase;
            }
        }
        return bits;
    }

    public int idle() {
        prepareOptions();
        int bits = 0;
        for (int phrase = 0; phrase < now.phrases; phrase++) {
            if (!now.gone[phrase] && options.howOften(phrase) == 0) {
                bits |= 1 << phrase;
            }
        }
        return bits;
    }

    public int reach() {
        prepareOptions();
        int jump = now.settings[JUMP];
        int least = reckonOtherwise(jump, MOST_FAR, NONE);
        int far = 0;
        while (far < MOST_FAR && reckonOtherwise(jump, far, NONE) > least) {
            far++;
        }
        return far;
    }

    public int width() {
        prepareOptions();
        prepareWays();
        int exact = knots.cheapest();
        stacksReady = false;
        for (int wide = 1; wide <= MOST_WIDE; wide++) {
            stacks.fill(now.settings[JUMP], now.settings[FAR], wide);
            if (stacks.foundCost == exact) {
                return wide;
            }
        }
        return NONE;
    }

    public int tuned() throws IllegalArgumentException {
        readTold();
        prepareOptions();
        int best = 0;
        int least = ENDLESS;
        for (int jump = 0; jump <= MOST_JUMP; jump++) {
            reckonOtherwise(jump, now.settings[FAR], NONE);
            ways.begin();
            ways.bring(0);
            ways.unfold(0);
            int apart = likeness.apart(ways.text, ways.textSize, reader.row, reader.rowSize);
            if (apart < least) {
                least = apart;
                best = jump;
            }
        }
        return best;
    }

    public void image() {
        kept.copy(now);
        hasImage = true;
    }

    public boolean back() {
        if (!hasImage) {
            return false;
        }
        now.copy(kept);
        forgetOptions();
        return true;
    }

    public int count(int what) {
        switch (what) {
            case 0:
                return now.words;
            case 1:
                return now.phrases;
            case 2:
                return now.pairs;
            case 3:
                return now.size;
            case 4:
            case 5:
            case 6:
            case 7:
            case 8:
                return now.settings[what - 4];
            case 9:
                return now.livingPhrases();
            default:
                return NONE;
        }
    }

    private void checkWord(int word) {
        if (word < 0 || word >= now.words) {
            throw new IndexOutOfBoundsException("there is no such word");
        }
    }

    private void checkPhrase(int phrase) {
        if (phrase < 0 || phrase >= now.phrases) {
            throw new IndexOutOfBoundsException("there is no such phrase");
        }
    }

    private void checkPlace(int place) {
        if (place < 0 || place >= now.size) {
            throw new IndexOutOfBoundsException("there is no such place");
        }
    }

    private void checkWay(int k) {
        if (k < 0 || k >= MOST_WAYS) {
            throw new IllegalArgumentException("no such number of a way");
        }
    }

    private void checkText() {
        if (!reader.isRight()) {
            throw new IllegalArgumentException("the text is wrong");
        }
    }

    private void readTold() {
        reader.readRow(now, false, MOST_TOLD);
        reader.length = 0;
        checkText();
    }

    private void keepDraft() {
        Knowledge before = now;
        now = draft;
        draft = before;
        forgetOptions();
    }

    private void forgetOptions() {
        optionsReady = false;
        forgetWays();
    }

    private void forgetWays() {
        waysReady = false;
        stacksReady = false;
    }

    private void prepareOptions() {
        if (!optionsReady) {
            options.gather(now);
            knots.explore();
            stretches.reckon();
            optionsReady = true;
        }
    }

    /** Wants the options ready. */
    private void prepareWays() {
        if (!waysReady) {
            knots.reckon(now.settings[JUMP], now.settings[FAR], NONE);
            ways.begin();
            waysReady = true;
        }
    }

    private void prepareStacks() {
        prepareOptions();
        if (!stacksReady) {
            stacks.fill(now.settings[JUMP], now.settings[FAR], now.settings[WIDE]);
            stacksReady = true;
        }
    }

    private boolean unfoldWay(int k) {
        prepareOptions();
        prepareWays();
        ways.bring(k);
        return ways.unfold(k);
    }

    /** EXACT under other numbers; wants the options ready, and what is kept of the ways no longer holds behind it. */
    private int reckonOtherwise(int jump, int far, int without) {
        waysReady = false;
        knots.reckon(jump, far, without);
        return knots.cheapest();
    }

    private int phrasesUnfolded() {
        int bits = 0;
        for (int n = 0; n < ways.size; n++) {
            int number = options.numbers[ways.steps[n]];
            if (number != PASSED) {
                bits |= 1 << number;
            }
        }
        return bits;
    }

    /** Wants the first way unfolded: without a phrase that it does not use it stays as cheap. */
    private int worthOf(int phrase) {
        if ((phrasesUnfolded() >> phrase & 1) == 0) {
            return 0;
        }
        int exact = knots.cheapest();
        return reckonOtherwise(now.settings[JUMP], now.settings[FAR], phrase) - exact;
    }

    /** All that THE IMAGE keeps: WORDS, PHRASES, FLUENCY, THE SENTENCE and what is tuned. */
    private static final class Knowledge {
        private final int[] letters = new int[MOST_WORDS * MOST_LETTERS];
        private final int[] lengths = new int[MOST_WORDS];
        private int words;
        private final int[] sources = new int[MOST_PHRASES * MOST_PARTS];
        private final int[] sourceSizes = new int[MOST_PHRASES];
        private final int[] targets = new int[MOST_PHRASES * MOST_PARTS];
        private final int[] targetSizes = new int[MOST_PHRASES];
        private final int[] costs = new int[MOST_PHRASES];
        private final boolean[] gone = new boolean[MOST_PHRASES];
        private int phrases;
        /** One more than what is told of a pair, so that a new row means that nothing is told. */
        private final int[] flows = new int[SIDES * SIDES];
        private int pairs;
        private final int[] places = new int[MOST_PLACES];
        private int size;
        private final int[] settings = {20, 50, 2, 6, 8};

        private void copy(Knowledge from) {
            System.arraycopy(from.letters, 0, letters, 0, letters.length);
            System.arraycopy(from.lengths, 0, lengths, 0, lengths.length);
            words = from.words;
            System.arraycopy(from.sources, 0, sources, 0, sources.length);
            System.arraycopy(from.sourceSizes, 0, sourceSizes, 0, sourceSizes.length);
            System.arraycopy(from.targets, 0, targets, 0, targets.length);
            System.arraycopy(from.targetSizes, 0, targetSizes, 0, targetSizes.length);
            System.arraycopy(from.costs, 0, costs, 0, costs.length);
            for (int phrase = 0; phrase < MOST_PHRASES; phrase++) {
                gone[phrase] = from.gone[phrase];
            }
            phrases = from.phrases;
            System.arraycopy(from.flows, 0, flows, 0, flows.length);
            pairs = from.pairs;
            System.arraycopy(from.places, 0, places, 0, places.length);
            size = from.size;
            System.arraycopy(from.settings, 0, settings, 0, settings.length);
        }

        private int findWord(int[] bytes, int from, int length) {
            for (int word = 0; word < words; word++) {
                if (lengths[word] == length && sameRow(letters, word * MOST_LETTERS, bytes, from, length)) {
                    return word;
                }
            }
            return NONE;
        }

        private int addWord(int[] bytes, int from, int length) {
            int word = words;
            System.arraycopy(bytes, from, letters, word * MOST_LETTERS, length);
            lengths[word] = length;
            words++;
            return word;
        }

        /** The phrase of that source and target that is not gone. */
        private int findPhrase(int[] source, int sourceFrom, int sourceSize, int[] target, int targetFrom, int targetSize) {
            for (int phrase = 0; phrase < phrases; phrase++) {
                int at = phrase * MOST_PARTS;
                if (!gone[phrase] && sourceSizes[phrase] == sourceSize && targetSizes[phrase] == targetSize
                        && sameRow(sources, at, source, sourceFrom, sourceSize)
                        && sameRow(targets, at, target, targetFrom, targetSize)) {
                    return phrase;
                }
            }
            return NONE;
        }

        private void addPhrase(int[] source, int sourceFrom, int sourceSize, int[] target, int targetFrom, int targetSize, int cost) {
            int phrase = phrases;
            System.arraycopy(source, sourceFrom, sources, phrase * MOST_PARTS, sourceSize);
            System.arraycopy(target, targetFrom, targets, phrase * MOST_PARTS, targetSize);
            sourceSizes[phrase] = sourceSize;
            targetSizes[phrase] = targetSize;
            costs[phrase] = cost;
            gone[phrase] = false;
            phrases++;
        }

        /** Whether a phrase that is gone has another one of its words that is not. */
        private boolean hasTwin(int phrase) {
            int at = phrase * MOST_PARTS;
            return findPhrase(sources, at, sourceSizes[phrase], targets, at, targetSizes[phrase]) != NONE;
        }

        private int livingPhrases() {
            int living = 0;
            for (int phrase = 0; phrase < phrases; phrase++) {
                if (!gone[phrase]) {
                    living++;
                }
            }
            return living;
        }

        private int flow(int first, int second) {
            int flow = flows[first * SIDES + second];
            return flow == 0 ? settings[UNSEEN] : flow - 1;
        }

        private boolean isOption(int phrase, int place) {
            return !gone[phrase] && place + sourceSizes[phrase] <= size
                    && sameRow(sources, phrase * MOST_PARTS, places, place, sourceSizes[phrase]);
        }

        private int enterBook(Reader text) {
            int came = 0;
            for (int i = 0; i < text.entries && text.isRight(); i++) {
                int at = i * MOST_PARTS;
                int phrase = findPhrase(text.sources, at, text.sourceSizes[i], text.targets, at, text.targetSizes[i]);
                if (phrase != NONE) {
                    costs[phrase] = text.numbers[i];
                } else if (phrases == MOST_PHRASES) {
                    text.fail(text.begins[i]);
                } else {
                    addPhrase(text.sources, at, text.sourceSizes[i], text.targets, at, text.targetSizes[i], text.numbers[i]);
                    came++;
                }
            }
            return came;
        }

        private void enterFluency(Reader text) {
            for (int i = 0; i < text.entries && text.isRight(); i++) {
                int at = text.sources[i * MOST_PARTS] * SIDES + text.targets[i * MOST_PARTS];
                if (flows[at] == 0 && pairs == MOST_PAIRS) {
                    text.fail(text.begins[i]);
                } else {
                    pairs += flows[at] == 0 ? 1 : 0;
                    flows[at] = text.numbers[i] + 1;
                }
            }
        }

        private void enterSentence(Reader text) {
            if (text.isRight()) {
                size = text.rowSize;
                System.arraycopy(text.row, 0, places, 0, size);
            }
        }

        private static boolean sameRow(int[] one, int oneFrom, int[] other, int otherFrom, int length) {
            for (int i = 0; i < length; i++) {
                if (one[oneFrom + i] != other[otherFrom + i]) {
                    return false;
                }
            }
            return true;
        }
    }

    /** The TAPE, and what was read of it last. A fault is kept as it is first met; reading goes on harmlessly behind it. */
    private static final class Reader {
        private final int[] bytes = new int[MOST_BYTES];
        private int length;
        private int bad = NONE;
        private final int[] begins = new int[MOST_ENTRIES];
        private final int[] sources = new int[MOST_ENTRIES * MOST_PARTS];
        private final int[] sourceSizes = new int[MOST_ENTRIES];
        private final int[] targets = new int[MOST_ENTRIES * MOST_PARTS];
        private final int[] targetSizes = new int[MOST_ENTRIES];
        private final int[] numbers = new int[MOST_ENTRIES];
        private int entries;
        private final int[] row = new int[MOST_TOLD];
        private int rowSize;
        private final int[] otherRow = new int[MOST_PLACES];
        private int otherSize;
        /** Of each place ahead of = the places behind it that it is linked with, as bits. */
        private final int[] links = new int[MOST_PLACES];
        private int at;
        private Knowledge dictionary;
        private boolean growing;

        private Reader(Knowledge known) {
            dictionary = known;
        }

        private void append(int n) {
            for (int shift = 24; shift >= 0 && length < MOST_BYTES; shift -= 8) {
                bytes[length] = n >>> shift & 255;
                length++;
            }
        }

        private boolean isRight() {
            return bad == NONE;
        }

        private void fail(int where) {
            if (bad == NONE) {
                bad = where;
            }
        }

        private void readBook(Knowledge known) {
            start(known, true);
            boolean more = at < length;
            for (int i = 0; i < MOST_ENTRIES && more; i++) {
                readEntry(i);
                more = goesOn(i);
            }
        }

        private void readFluency(Knowledge known) {
            start(known, true);
            boolean more = at < length;
            for (int i = 0; i < MOST_ENTRIES && more; i++) {
                readPair(i);
                more = goesOn(i);
            }
        }

        /** Words that are none yet and shall not be come as NONE, which no WORD is. */
        private void readRow(Knowledge known, boolean grow, int most) {
            start(known, grow);
            rowSize = readWords(row, 0, most);
            if (at < length) {
                fail(at);
            }
        }

        private void readLesson(Knowledge known) {
            start(known, true);
            rowSize = readWords(row, 0, MOST_PLACES);
            needSome(rowSize);
            expect('=');
            otherSize = readWords(otherRow, 0, MOST_PLACES);
            needSome(otherSize);
            expect('/');
            Arrays.fill(links, 0);
            boolean more = isRight();
            for (int i = 0; i < MOST_ENTRIES && more; i++) {
                readLink();
                more = goesOn(i);
            }
        }

        private void start(Knowledge known, boolean grow) {
            dictionary = known;
            growing = grow;
            at = 0;
            bad = NONE;
            entries = 0;
            rowSize = 0;
            otherSize = 0;
            skipBlanks();
        }

        /** Whether another one comes behind the i-th; one too many is at fault where it begins. */
        private boolean goesOn(int i) {
            if (!isRight() || at >= length) {
                return false;
            }
            expect(';');
            if (i + 1 >= MOST_ENTRIES) {
                fail(at);
            }
            return isRight();
        }

        private void readEntry(int i) {
            begins[i] = at;
            sourceSizes[i] = readWords(sources, i * MOST_PARTS, MOST_PARTS);
            needSome(sourceSizes[i]);
            expect('=');
            targetSizes[i] = readWords(targets, i * MOST_PARTS, MOST_PARTS);
            numbers[i] = readNumber(MOST_COST);
            entries = i + 1;
        }

        private void readPair(int i) {
            begins[i] = at;
            sources[i * MOST_PARTS] = take('^') ? EDGE : readWord();
            targets[i * MOST_PARTS] = take('$') ? EDGE : readWord();
            numbers[i] = readNumber(MOST_COST);
            entries = i + 1;
        }

        private void readLink() {
            int begin = at;
            int from = readNumber(rowSize - 1);
            int to = readNumber(otherSize - 1);
            if (from == NONE || to == NONE) {
                return;
            }
            if ((links[from] >> to & 1) != 0) {
                fail(begin);
            }
            links[from] |= 1 << to;
        }

        private int readWords(int[] into, int from, int most) {
            int size = 0;
            while (size < most && isRight() && atLetter()) {
                into[from + size] = readWord();
                size++;
            }
            if (atLetter()) {
                fail(at);
            }
            return size;
        }

        private int readWord() {
            int begin = at;
            while (at < length && atLetter()) {
                at++;
            }
            int size = at - begin;
            if (size == 0 || size > MOST_LETTERS) {
                fail(begin);
                return NONE;
            }
            skipBlanks();
            int word = dictionary.findWord(bytes, begin, size);
            if (word != NONE || !growing) {
                return word;
            }
            if (dictionary.words >= MOST_WORDS) {
                fail(begin);
                return NONE;
            }
            return dictionary.addWord(bytes, begin, size);
        }

        private int readNumber(int most) {
            int begin = at;
            int value = 0;
            while (at < length && bytes[at] >= '0' && bytes[at] <= '9') {
                if (at - begin < MOST_DIGITS) {
                    value = value * 10 + bytes[at] - '0';
                }
                at++;
            }
            int digits = at - begin;
            if (digits == 0 || digits > MOST_DIGITS || value > most) {
                fail(begin);
                return NONE;
            }
            skipBlanks();
            return value;
        }

        private void needSome(int size) {
            if (size == 0) {
                fail(at);
            }
        }

        private void expect(int sign) {
            if (!take(sign)) {
                fail(at);
            }
        }

        private boolean take(int sign) {
            if (at >= length || bytes[at] != sign) {
                return false;
            }
            at++;
            skipBlanks();
            return true;
        }

        private boolean atLetter() {
            return at < length && bytes[at] >= 'a' && bytes[at] <= 'z';
        }

        private void skipBlanks() {
            while (at < length && bytes[at] == ' ') {
                at++;
            }
        }
    }

    /** PHRASES LEARNED of a LESSON that was read and is right. */
    private static final class Lesson {
        private Lesson() {
        }

        /** How many phrases came; NONE if there would be too many. */
        private static int enter(Knowledge known, Reader text) {
            int came = 0;
            for (int from = 0; from < text.rowSize; from++) {
                for (int to = from; to < text.rowSize && to < from + MOST_PARTS; to++) {
                    int more = enterAhead(known, text, from, to);
                    if (more == NONE) {
                        return NONE;
                    }
                    came += more;
                }
            }
            return came;
        }

        private static int enterAhead(Knowledge known, Reader text, int from, int to) {
            int came = 0;
            for (int first = 0; first < text.otherSize; first++) {
                for (int last = first; last < text.otherSize && last < first + MOST_PARTS; last++) {
                    if (!belong(text, from, to, first, last)) {
                        continue;
                    }
                    int sourceSize = to - from + 1;
                    int targetSize = last - first + 1;
                    int phrase = known.findPhrase(text.row, from, sourceSize, text.otherRow, first, targetSize);
                    if (phrase != NONE) {
                        known.costs[phrase] = Math.max(0, known.costs[phrase] - 1);
                    } else if (known.phrases == MOST_PHRASES) {
                        return NONE;
                    } else {
                        int cost = LEARNED_COST + UNLINKED_COST * unlinked(text, from, to, first, last);
                        known.addPhrase(text.row, from, sourceSize, text.otherRow, first, targetSize, cost);
                        came++;
                    }
                }
            }
            return came;
        }

        private static boolean belong(Reader text, int from, int to, int first, int last) {
            int inside = bitsOf(first, last);
            boolean some = false;
            for (int place = 0; place < text.rowSize; place++) {
                boolean within = place >= from && place <= to;
                int stray = within ? text.links[place] & ~inside : text.links[place] & inside;
                if (stray != 0) {
                    return false;
                }
                some |= within && text.links[place] != 0;
            }
            return some;
        }

        /** Links of stretches that belong together stay within them, so those of the places ahead are all there are. */
        private static int unlinked(Reader text, int from, int to, int first, int last) {
            int linked = 0;
            int without = 0;
            for (int place = from; place <= to; place++) {
                linked |= text.links[place];
                without += text.links[place] == 0 ? 1 : 0;
            }
            return without + Integer.bitCount(bitsOf(first, last) & ~linked);
        }

        private static int bitsOf(int first, int last) {
            return (1 << (last + 1)) - (1 << first);
        }
    }

    /**
     * All OPTIONS of THE SENTENCE in one row, by START, then by number: so the order of two STEPS is the
     * order of their options in this row.
     */
    private static final class Options {
        private final int[] starts = new int[MOST_OPTIONS];
        private final int[] ends = new int[MOST_OPTIONS];
        private final int[] covers = new int[MOST_OPTIONS];
        private final int[] numbers = new int[MOST_OPTIONS];
        private final int[] targets = new int[MOST_OPTIONS * MOST_PARTS];
        private final int[] targetSizes = new int[MOST_OPTIONS];
        /** The first and the last word of the target; NONE of an empty one. */
        private final int[] firsts = new int[MOST_OPTIONS];
        private final int[] lasts = new int[MOST_OPTIONS];
        /** Cost of the option with fluency inside its target: what a step costs wherever it stands. */
        private final int[] owns = new int[MOST_OPTIONS];
        private int many;
        private int places;
        private Knowledge known;

        private Options(Knowledge known) {
            this.known = known;
        }

        private void gather(Knowledge from) {
            known = from;
            places = from.size;
            many = 0;
            for (int place = 0; place < places; place++) {
                for (int phrase = 0; phrase < from.phrases; phrase++) {
                    if (from.isOption(phrase, place)) {
                        add(place, from.sourceSizes[phrase], phrase, from.costs[phrase]);
                        bring(from.targets, phrase * MOST_PARTS, from.targetSizes[phrase]);
                    }
                }
                add(place, 1, PASSED, from.settings[PASS]);
                bring(from.places, place, 1);
            }
        }

        private void add(int start, int size, int number, int cost) {
            starts[many] = start;
            ends[many] = start + size;
            covers[many] = (1 << (start + size)) - (1 << start);
            numbers[many] = number;
            owns[many] = cost;
        }

        private void bring(int[] words, int from, int size) {
            System.arraycopy(words, from, targets, many * MOST_PARTS, size);
            targetSizes[many] = size;
            firsts[many] = size == 0 ? NONE : words[from];
            lasts[many] = size == 0 ? NONE : words[from + size - 1];
            for (int i = 1; i < size; i++) {
                owns[many] += known.flow(words[from + i - 1], words[from + i]);
            }
            many++;
        }

        private int howOften(int phrase) {
            int times = 0;
            for (int option = 0; option < many; option++) {
                times += numbers[option] == phrase ? 1 : 0;
            }
            return times;
        }

        private int numberAt(int place, int k) {
            int rank = 0;
            for (int option = 0; option < many; option++) {
                if (starts[option] == place) {
                    if (rank == k) {
                        return numbers[option];
                    }
                    rank++;
                }
            }
            return NONE;
        }

        private int full() {
            return (1 << places) - 1;
        }

        private int gap(int option, int behind) {
            return Math.abs(starts[option] - behind);
        }

        /** Cost of a step behind a text that ends with that word, without the jump. */
        private int standing(int option, int before) {
            return firsts[option] == NONE ? owns[option] : owns[option] + known.flow(before, firsts[option]);
        }

        private int ending(int last) {
            return known.flow(last, EDGE);
        }
    }

    /**
     * KNOTS: what of a row of steps matters for all that may come (places covered, place behind the last
     * step, last word of the text). Those that can be come to are numbered once, those that cover less
     * first; what is left from each of them on is reckoned under any jump, far, and without any phrase.
     */
    private static final class Knots {
        private static final int MET = -1;
        private final Options options;
        /** One more than a knot's number; 0 where there is none, MET until it is numbered. */
        private final int[] seats = new int[MASKS * BEHINDS * SIDES];
        private final int[] codes = new int[MOST_KNOTS];
        private final int[] rests = new int[MOST_KNOTS];
        /** The number of the first knot that covers so many places; behind all, how many knots there are. */
        private final int[] firsts = new int[BEHINDS + 1];
        private int many;
        private int jump;
        private int far;
        private int without;

        private Knots(Options options) {
            this.options = options;
        }

        private int mask(int knot) {
            return codes[knot] / (BEHINDS * SIDES);
        }

        private int behind(int knot) {
            return codes[knot] / SIDES % BEHINDS;
        }

        private int last(int knot) {
            return codes[knot] % SIDES;
        }

        private int cheapest() {
            return rests[0];
        }

        private int codeBehind(int mask, int last, int option) {
            int place = (mask | options.covers[option]) * BEHINDS + options.ends[option];
            return place * SIDES + (options.lasts[option] == NONE ? last : options.lasts[option]);
        }

        /** The knot that a step leads to; NONE if it was never come to. */
        private int follow(int mask, int last, int option) {
            return seats[codeBehind(mask, last, option)] - 1;
        }

        private void explore() {
            for (int knot = 0; knot < many; knot++) {
                seats[codes[knot]] = 0;
            }
            many = 0;
            seats[EDGE] = MET;
            for (int n = 0; n <= options.places; n++) {
                firsts[n] = many;
                for (int mask = 0; mask <= options.full(); mask++) {
                    if (Integer.bitCount(mask) == n) {
                        exploreMask(mask);
                    }
                }
            }
            firsts[options.places + 1] = many;
        }

        private void exploreMask(int mask) {
            for (int behind = 0; behind <= options.places; behind++) {
                int lasts = mayEnd(mask, behind) ? SIDES : 0;
                for (int last = 0; last < lasts; last++) {
                    int code = (mask * BEHINDS + behind) * SIDES + last;
                    if (seats[code] == MET && many < MOST_KNOTS) {
                        codes[many] = code;
                        many++;
                        seats[code] = many;
                        meetFrom(mask, last);
                    }
                }
            }
        }

        private static boolean mayEnd(int mask, int behind) {
            return behind == 0 ? mask == 0 : (mask >> (behind - 1) & 1) != 0;
        }

        private void meetFrom(int mask, int last) {
            for (int option = 0; option < options.many; option++) {
                if ((mask & options.covers[option]) == 0) {
                    seats[codeBehind(mask, last, option)] = MET;
                }
            }
        }

        /** Steps only lead to greater numbers, so from the greatest down all that a knot needs is there. */
        private void reckon(int jumpCost, int farMost, int leftOut) {
            jump = jumpCost;
            far = farMost;
            without = leftOut;
            int whole = firsts[options.places];
            for (int knot = many - 1; knot >= 0; knot--) {
                rests[knot] = knot >= whole ? options.ending(last(knot)) : leastRest(knot);
            }
        }

        private int leastRest(int from) {
            int mask = mask(from);
            int behind = behind(from);
            int last = last(from);
            int least = ENDLESS;
            for (int option = 0; option < options.many; option++) {
                if ((mask & options.covers[option]) != 0 || options.numbers[option] == without) {
                    continue;
                }
                int gap = options.gap(option, behind);
                int knot = follow(mask, last, option);
                if (gap <= far && knot >= 0) {
                    least = Math.min(least, rests[knot] + options.standing(option, last) + jump * gap);
                }
            }
            return least;
        }
    }

    /**
     * The WAYS in their order, brought one by one. Begun ways wait with a key: the cost of the cheapest way
     * that begins so, then their steps; so the least key is always the begin of the next way.
     */
    private static final class Ways {
        private final Options options;
        private final Knots knots;
        private final long[] keys = new long[MOST_WAYS];
        private final int[] ends = new int[MOST_WAYS];
        private final int[] spent = new int[MOST_WAYS];
        private final int[] depths = new int[MOST_WAYS];
        private int waiting;
        private final long[] ready = new long[MOST_WAYS];
        private int many;
        private final int[] steps = new int[MOST_PLACES];
        private final int[] stepCosts = new int[MOST_PLACES];
        private int size;
        private final int[] text = new int[MOST_TOLD];
        private int textSize;

        private Ways(Options options, Knots knots) {
            this.options = options;
            this.knots = knots;
        }

        private void begin() {
            many = 0;
            waiting = 0;
            enqueue((long) knots.cheapest() << COST_SHIFT, 0, 0, 0);
        }

        private int costOf(int k) {
            return (int) (ready[k] >>> COST_SHIFT);
        }

        /** Brings the ways up to the k-th, if there are so many. */
        private void bring(int k) {
            // No way has more steps than places, so each takes that many looks and one at most.
            for (int looks = (MOST_PLACES + 1) * MOST_WAYS; looks > 0 && many <= k && waiting > 0; looks--) {
                takeFirst();
            }
        }

        /** Lays the steps and the text of the k-th way out; false if there is no such way among those brought. */
        private boolean unfold(int k) {
            size = 0;
            textSize = 0;
            if (k >= many) {
                return false;
            }
            int behind = 0;
            int last = EDGE;
            for (int n = 0; n < MOST_PLACES; n++) {
                int option = stepOf(ready[k], n);
                if (option == NONE) {
                    break;
                }
                steps[size] = option;
                stepCosts[size] = options.standing(option, last) + knots.jump * options.gap(option, behind);
                size++;
                int words = options.targetSizes[option];
                System.arraycopy(options.targets, option * MOST_PARTS, text, textSize, words);
                textSize += words;
                behind = options.ends[option];
                last = words == 0 ? last : options.lasts[option];
            }
            return true;
        }

        private static int stepOf(long key, int n) {
            return (int) ((key >>> (STEP_BITS * (MOST_PLACES - 1 - n))) & STEP_MASK) - 1;
        }

        private void takeFirst() {
            long key = keys[0];
            int end = ends[0];
            int cost = spent[0];
            int depth = depths[0];
            waiting--;
            System.arraycopy(keys, 1, keys, 0, waiting);
            System.arraycopy(ends, 1, ends, 0, waiting);
            System.arraycopy(spent, 1, spent, 0, waiting);
            System.arraycopy(depths, 1, depths, 0, waiting);
            if (knots.mask(end) == options.full()) {
                ready[many] = key;
                many++;
            } else if (depth < MOST_PLACES) {
                goOn(key & ((1L << COST_SHIFT) - 1), end, cost, depth);
            }
        }

        private void goOn(long row, int end, int cost, int depth) {
            int mask = knots.mask(end);
            int behind = knots.behind(end);
            int last = knots.last(end);
            for (int option = 0; option < options.many; option++) {
                int gap = options.gap(option, behind);
                if ((mask & options.covers[option]) != 0 || gap > knots.far) {
                    continue;
                }
                int knot = knots.follow(mask, last, option);
                if (knot < 0 || knots.rests[knot] >= ENDLESS) {
                    continue;
                }
                int then = cost + options.standing(option, last) + knots.jump * gap;
                long step = (long) (option + 1) << (STEP_BITS * (MOST_PLACES - 1 - depth));
                long whole = (long) (then + knots.rests[knot]) << COST_SHIFT;
                enqueue(whole | row | step, knot, then, depth + 1);
            }
        }

        /** Each that waits ends in one way at least, so no more need to wait than ways are still to come. */
        private void enqueue(long key, int end, int cost, int depth) {
            int room = MOST_WAYS - many;
            if (waiting >= room) {
                if (room <= 0 || key >= keys[room - 1]) {
                    return;
                }
                waiting = room - 1;
            }
            int at = waiting;
            while (at > 0 && keys[at - 1] > key) {
                keys[at] = keys[at - 1];
                ends[at] = ends[at - 1];
                spent[at] = spent[at - 1];
                depths[at] = depths[at - 1];
                at--;
            }
            keys[at] = key;
            ends[at] = end;
            spent[at] = cost;
            depths[at] = depth;
            waiting++;
        }
    }

    /** STRETCHES of all two PLACES, and AHEAD of all sets. */
    private static final class Stretches {
        private final Options options;
        private final int[] costs = new int[MOST_PLACES * MOST_PLACES];
        private final int[] aheads = new int[MASKS];

        private Stretches(Options options) {
            this.options = options;
        }

        private void reckon() {
            Arrays.fill(costs, ENDLESS);
            for (int option = 0; option < options.many; option++) {
                int at = options.starts[option] * MOST_PLACES + options.ends[option] - 1;
                costs[at] = Math.min(costs[at], options.owns[option]);
            }
            for (int size = 2; size <= options.places; size++) {
                for (int from = 0; from + size <= options.places; from++) {
                    join(from, from + size - 1);
                }
            }
            for (int covered = 0; covered <= options.full(); covered++) {
                aheads[covered] = reckonAhead(covered);
            }
        }

        private void join(int from, int to) {
            int at = from * MOST_PLACES + to;
            for (int middle = from; middle < to; middle++) {
                int both = costs[from * MOST_PLACES + middle] + costs[(middle + 1) * MOST_PLACES + to];
                costs[at] = Math.min(costs[at], both);
            }
        }

        private int reckonAhead(int covered) {
            int sum = 0;
            int from = NONE;
            for (int place = 0; place < options.places; place++) {
                boolean open = (covered >> place & 1) == 0;
                boolean openBehind = place + 1 < options.places && (covered >> (place + 1) & 1) == 0;
                if (open && from == NONE) {
                    from = place;
                }
                if (open && !openBehind) {
                    sum += costs[from * MOST_PLACES + place];
                    from = NONE;
                }
            }
            return sum;
        }
    }

    /** THE STACKS. Halves that would be merged are just those of one knot, so a half lies at its knot's number. */
    private static final class Stacks {
        private final Options options;
        private final Knots knots;
        private final Stretches stretches;
        private final int[] costs = new int[MOST_KNOTS];
        /** When the half was made, NONE where no half lies. */
        private final int[] times = new int[MOST_KNOTS];
        private final int[] parents = new int[MOST_KNOTS];
        private final int[] steps = new int[MOST_KNOTS];
        private final int[] counts = new int[BEHINDS];
        private final int[] leasts = new int[BEHINDS];
        private final long[] ranks = new long[MOST_WIDE];
        private final int[] stayers = new int[MOST_WIDE];
        private int staying;
        private int made;
        private int merged;
        private int cut;
        private int foundCost;
        private final int[] path = new int[MOST_PLACES];
        private int pathSize;

        private Stacks(Options options, Knots knots, Stretches stretches) {
            this.options = options;
            this.knots = knots;
            this.stretches = stretches;
        }

        private void fill(int jump, int far, int wide) {
            for (int knot = 0; knot < knots.many; knot++) {
                times[knot] = NONE;
            }
            Arrays.fill(counts, 0);
            Arrays.fill(leasts, NONE);
            made = 0;
            merged = 0;
            cut = 0;
            lay(0, 0, NONE, NONE);
            for (int n = 0; n < options.places; n++) {
                choose(n, wide);
                cut += counts[n] - staying;
                for (int i = 0; i < staying; i++) {
                    goOn(stayers[i], jump, far);
                }
            }
            find();
        }

        private void lay(int knot, int cost, int parent, int step) {
            int n = Integer.bitCount(knots.mask(knot));
            if (times[knot] != NONE) {
                merged++;
                if (cost >= costs[knot]) {
                    return;
                }
            } else {
                counts[n]++;
            }
            costs[knot] = cost;
            times[knot] = made;
            parents[knot] = parent;
            steps[knot] = step;
            int score = score(knot);
            leasts[n] = leasts[n] == NONE ? score : Math.min(leasts[n], score);
        }

        private int score(int knot) {
            return costs[knot] + stretches.aheads[knots.mask(knot)];
        }

        private void choose(int n, int wide) {
            staying = 0;
            for (int knot = knots.firsts[n]; knot < knots.firsts[n + 1]; knot++) {
                if (times[knot] != NONE) {
                    offer(knot, wide);
                }
            }
        }

        private void offer(int knot, int wide) {
            long rank = ((long) score(knot) << 32) | times[knot];
            if (staying < wide) {
                staying++;
            } else if (rank >= ranks[wide - 1]) {
                return;
            }
            int at = staying - 1;
            while (at > 0 && ranks[at - 1] > rank) {
                ranks[at] = ranks[at - 1];
                stayers[at] = stayers[at - 1];
                at--;
            }
            ranks[at] = rank;
            stayers[at] = knot;
        }

        private void goOn(int half, int jump, int far) {
            int mask = knots.mask(half);
            int behind = knots.behind(half);
            int last = knots.last(half);
            for (int option = 0; option < options.many; option++) {
                int gap = options.gap(option, behind);
                if ((mask & options.covers[option]) != 0 || gap > far) {
                    continue;
                }
                int knot = knots.follow(mask, last, option);
                if (knot >= 0) {
                    made++;
                    lay(knot, costs[half] + options.standing(option, last) + jump * gap, half, option);
                }
            }
        }

        private void find() {
            int best = NONE;
            foundCost = NONE;
            for (int knot = knots.firsts[options.places]; knot < knots.many; knot++) {
                if (times[knot] == NONE) {
                    continue;
                }
                int cost = costs[knot] + options.ending(knots.last(knot));
                if (best == NONE || cost < foundCost || (cost == foundCost && times[knot] < times[best])) {
                    best = knot;
                    foundCost = cost;
                }
            }
            tracePath(best);
        }

        private void tracePath(int best) {
            pathSize = 0;
            for (int half = best; pathSize < MOST_PLACES && half != NONE && steps[half] != NONE; half = parents[half]) {
                pathSize++;
            }
            int half = best;
            for (int n = pathSize - 1; n >= 0; n--) {
                path[n] = steps[half];
                half = parents[half];
            }
        }
    }

    /** What is reckoned over places covered and the place behind, without the last word: how many ways, and FORCED. */
    private static final class Counting {
        private final Options options;
        private final int[] counts = new int[MASKS * BEHINDS];
        private final int[] costs = new int[MASKS * BEHINDS * TOLD_ENDS];

        private Counting(Options options) {
            this.options = options;
        }

        private int countWays(int far) {
            int full = options.full();
            Arrays.fill(counts, 0);
            counts[0] = 1;
            for (int at = 0; at < full * BEHINDS; at++) {
                if (counts[at] != 0) {
                    countFrom(at, far);
                }
            }
            int sum = 0;
            for (int behind = 0; behind < BEHINDS; behind++) {
                sum = Math.min(MOST_COUNTED, sum + counts[full * BEHINDS + behind]);
            }
            return sum;
        }

        private void countFrom(int at, int far) {
            int mask = at / BEHINDS;
            for (int option = 0; option < options.many; option++) {
                if ((mask & options.covers[option]) == 0 && options.gap(option, at % BEHINDS) <= far) {
                    int to = (mask | options.covers[option]) * BEHINDS + options.ends[option];
                    counts[to] = Math.min(MOST_COUNTED, counts[to] + counts[at]);
                }
            }
        }

        /** The least cost of ways whose text is just the told one; NONE without. */
        private int cheapestTelling(int[] told, int size, int jump, int far) {
            int full = options.full();
            Arrays.fill(costs, ENDLESS);
            costs[0] = 0;
            for (int at = 0; at < full * BEHINDS * TOLD_ENDS; at++) {
                if (costs[at] < ENDLESS) {
                    tellFrom(at, told, size, jump, far);
                }
            }
            int least = ENDLESS;
            for (int behind = 0; behind < BEHINDS; behind++) {
                least = Math.min(least, costs[(full * BEHINDS + behind) * TOLD_ENDS + size]);
            }
            return least == ENDLESS ? NONE : least + options.ending(wordAhead(told, size));
        }

        private void tellFrom(int at, int[] told, int size, int jump, int far) {
            int done = at % TOLD_ENDS;
            int behind = at / TOLD_ENDS % BEHINDS;
            int mask = at / (TOLD_ENDS * BEHINDS);
            int last = wordAhead(told, done);
            for (int option = 0; option < options.many; option++) {
                int gap = options.gap(option, behind);
                if ((mask & options.covers[option]) == 0 && gap <= far && tells(option, told, done, size)) {
                    int knot = (mask | options.covers[option]) * BEHINDS + options.ends[option];
                    int to = knot * TOLD_ENDS + done + options.targetSizes[option];
                    costs[to] = Math.min(costs[to], costs[at] + options.standing(option, last) + jump * gap);
                }
            }
        }

        private boolean tells(int option, int[] told, int done, int size) {
            int words = options.targetSizes[option];
            return done + words <= size && Knowledge.sameRow(options.targets, option * MOST_PARTS, told, done, words);
        }

        private static int wordAhead(int[] told, int done) {
            return done == 0 ? EDGE : told[done - 1];
        }
    }

    /** How alike rows of words are. */
    private static final class Likeness {
        private final int[] fewest = new int[TOLD_ENDS];
        private final int[][] texts = new int[MOST_AGREED][MOST_TOLD];
        private final int[] textSizes = new int[MOST_AGREED];
        private int many;

        private int apart(int[] one, int oneSize, int[] other, int otherSize) {
            for (int j = 0; j <= otherSize; j++) {
                fewest[j] = j;
            }
            for (int i = 1; i <= oneSize; i++) {
                int corner = fewest[0];
                fewest[0] = i;
                for (int j = 1; j <= otherSize; j++) {
                    int changed = corner + (one[i - 1] == other[j - 1] ? 0 : 1);
                    corner = fewest[j];
                    fewest[j] = Math.min(changed, Math.min(fewest[j - 1], corner) + 1);
                }
            }
            return fewest[otherSize];
        }

        /** A row of the text counts if fewer like it stand ahead of it than there are in the told one. */
        private int common(int[] text, int size, int[] told, int toldSize, int n) {
            int sum = 0;
            for (int at = 0; at + n <= size; at++) {
                int before = howOften(text, at, text, at + n - 1, n);
                if (before < howOften(text, at, told, toldSize, n)) {
                    sum++;
                }
            }
            return sum;
        }

        private int howOften(int[] text, int at, int[] in, int size, int n) {
            int times = 0;
            for (int from = 0; from + n <= size; from++) {
                times += Knowledge.sameRow(text, at, in, from, n) ? 1 : 0;
            }
            return times;
        }

        private void clear() {
            many = 0;
        }

        private void add(int[] text, int size) {
            if (many < MOST_AGREED) {
                System.arraycopy(text, 0, texts[many], 0, size);
                textSizes[many] = size;
                many++;
            }
        }

        /** The first of those that were added with the least sum of APART to all. */
        private int middle() {
            int best = 0;
            int least = ENDLESS;
            for (int one = 0; one < many; one++) {
                int sum = 0;
                for (int other = 0; other < many; other++) {
                    sum += apart(texts[one], textSizes[one], texts[other], textSizes[other]);
                }
                if (sum < least) {
                    least = sum;
                    best = one;
                }
            }
            return best;
        }
    }
}
