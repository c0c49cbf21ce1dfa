/**
 * A parade of banner carriers that spells words: bearers of letters march in a row, lag as their
 * strength goes, swap banners on the march, drop them and pick them up, and stands on both sides
 * of the route read what passes them.
 */
public final class BannerParade {
    public static final int NONE = -1;

    private static final int MAX_INPUT = 700;
    private static final int MAX_BEARERS = 12;
    private static final int MAX_STANDS = 6;
    private static final int MAX_PLANS = 12;
    private static final int MAX_WORD = 8;
    private static final int MAX_DIGITS = 4;
    private static final int MAX_TEXT = 128;
    private static final int MAX_TIME = 5000;
    private static final int MAX_STRENGTH = 100;
    private static final int MAX_STEP = 200;
    private static final int MAX_LAG = 20;
    private static final int MAX_PLACE = 9999;
    private static final int MAX_REST = 50;
    private static final int MAX_CHANGES = 8;
    private static final int MAX_SLOTS = 2;
    private static final int MAX_TICKS = 100;
    private static final int LETTERS = 26;
    private static final int SWAP_COST = 2;
    private static final int FORESIGHT = 300;
    private static final int REST_FORESIGHT = 100;

    private static final int SPACE = 0;
    private static final int REACH = 1;
    private static final int WIDE = 2;
    private static final int REST = 3;
    private static final int LIFT = 4;
    private static final int NEAR = 5;
    private static final int SETTINGS = 6;
    private static final int[] LEAST_SETTINGS = {1, 0, 1, 0, 1, 0};
    private static final int[] GREATEST_SETTINGS = {999, 9999, 9999, 50, 100, 9999};

    private static final int TO_COME = 0;
    private static final int DONE = 1;
    private static final int MISSED = 2;

    private static final int GRAMMAR_ERROR = 1;
    private static final int BOUNDS_ERROR = 2;
    private static final int TOO_MANY_ERROR = 4;

    private static final int BLANK = 32;
    private static final int COMMA = 44;
    private static final int MINUS = 45;
    private static final int DIGIT_ZERO = 48;
    private static final int DIGIT_NINE = 57;
    private static final int SEMICOLON = 59;
    private static final int AHEAD_OF_A = 96;
    private static final int LETTER_A = 97;
    private static final int LETTER_Z = 122;

    private final Parser parser = new Parser();
    private final State now = new State();
    private final State later = new State();
    private final Route route = new Route();
    private final Memory memory = new Memory();
    private final Reading reading = new Reading();
    private final Bytes written = new Bytes();
    private boolean loaded = false;

    public BannerParade() {
    }

    // ---- input

    public int append(int a, int b, int c, int d, int e) {
        return parser.tokens.putTwenty(a, b, c, d, e);
    }

    public int load(int n) throws IndexOutOfBoundsException, IllegalArgumentException {
        if (n < 0 || n > parser.tokens.filled) {
            throw new IndexOutOfBoundsException("not so many bytes in the buffer");
        }
        boolean sound = parser.parseText(n);
        parser.tokens.filled = 0;
        needArgument(sound);
        now.copyFrom(parser.state);
        route.copyFrom(parser.route);
        memory.forgetChanges();
        memory.forgetSlots();
        loaded = true;
        return now.row.size;
    }

    public int parseError() {
        return parser.error;
    }

    public int errorPosition() {
        return parser.errorAt;
    }

    public int buffered() {
        return parser.tokens.filled;
    }

    // ---- what there is

    public int count(int what) throws IllegalStateException, IllegalArgumentException {
        needLoaded();
        needRange(what, 0, 16);
        switch (what) {
            case 0: return now.row.size;
            case 1: return route.size;
            case 2: return now.plans.size;
            case 3: return now.time;
            case 4: return now.row.carriers();
            case 5: return now.ground.size;
            case 6: return now.swapsDone;
            case 7: return now.plans.withOutcome(MISSED);
            case 8: return now.dropsDone;
            case 9: return now.picksDone;
            case 10: return Integer.bitCount(standsWithReadWord());
            case 11: return now.plans.withOutcome(TO_COME);
            case 12: return Integer.bitCount(now.row.upToStrength(0));
            case 13: return now.row.carriersOfOwnLetter();
            case 14: return now.row.withinSpace(now.settings[SPACE]);
            case 15: return now.row.strideSum();
            default: return standsThatSeeAny();
        }
    }

    public int setting(int what) throws IllegalStateException, IllegalArgumentException {
        needLoaded();
        needRange(what, 0, SETTINGS - 1);
        return now.settings[what];
    }

    public int bearer(int b, int what)
            throws IllegalStateException, IndexOutOfBoundsException, IllegalArgumentException {
        needLoaded();
        needBearer(b);
        needRange(what, 0, 12);
        Row row = now.row;
        switch (what) {
            case 0: return row.banner[b];
            case 1: return row.place[b];
            case 2: return row.step[b];
            case 3: return row.lag[b];
            case 4: return row.strength[b];
            case 5: return row.strideOf(b);
            case 6: return row.distanceAhead(b);
            case 7: return row.moved[b];
            case 8: return row.own[b];
            case 9: return standsThatSee(b);
            case 10: return row.place[0] - row.place[b];
            case 11: return row.belowStrength(row.strength[b]);
            default: return now.ground.between(row.place[b], row.place[b]) > 0 ? 1 : 0;
        }
    }

    public int stand(int s, int what)
            throws IllegalStateException, IndexOutOfBoundsException, IllegalArgumentException {
        needLoaded();
        needStand(s);
        needRange(what, 0, 8);
        int reach = now.settings[REACH];
        switch (what) {
            case 0: return route.right[s];
            case 1: return route.place[s];
            case 2: return route.wordLength[s];
            case 3: return now.readAt[s];
            case 4: return Integer.bitCount(bearersSeenFrom(s));
            case 5: return readNow(s).length;
            case 6: return now.row.leastDifference(route.place[s]);
            case 7: return now.row.beyond(route.place[s] + reach);
            default: return now.row.shortOf(route.place[s] - reach);
        }
    }

    public int plan(int k, int what)
            throws IllegalStateException, IndexOutOfBoundsException, IllegalArgumentException {
        needLoaded();
        Plans plans = now.plans;
        needIndex(k, plans.size);
        needRange(what, 0, 3);
        switch (what) {
            case 0: return plans.time[k];
            case 1: return plans.ahead[k];
            case 2: return plans.outcome[k];
            default: return plans.outcome[k] == TO_COME ? plans.time[k] - now.time : NONE;
        }
    }

    public int lying(int k, int what)
            throws IllegalStateException, IndexOutOfBoundsException, IllegalArgumentException {
        needLoaded();
        Ground ground = now.ground;
        needIndex(k, ground.size);
        needRange(what, 0, 2);
        switch (what) {
            case 0: return ground.letter[k];
            case 1: return ground.place[k];
            default: return ground.time[k];
        }
    }

    public int wordByte(int s, int i) throws IllegalStateException, IndexOutOfBoundsException {
        needLoaded();
        needStand(s);
        return route.byteOfWord(s, i);
    }

    public int readByte(int s, int i) throws IllegalStateException, IndexOutOfBoundsException {
        needLoaded();
        needStand(s);
        return readNow(s).byteAt(i);
    }

    // ---- what is seen

    public int seen(int s) throws IllegalStateException, IndexOutOfBoundsException {
        needLoaded();
        needStand(s);
        return bearersSeenFrom(s);
    }

    public int matches(int s) throws IllegalStateException, IndexOutOfBoundsException {
        needLoaded();
        needStand(s);
        return readNow(s).alike(route, s);
    }

    public boolean isRead(int s) throws IllegalStateException, IndexOutOfBoundsException {
        needLoaded();
        needStand(s);
        return readNow(s).isWord(route, s);
    }

    public float share(int s) throws IllegalStateException, IndexOutOfBoundsException {
        needLoaded();
        needStand(s);
        return readNow(s).shareOfWord(route, s);
    }

    public int shareBits(int s) throws IllegalStateException, IndexOutOfBoundsException {
        needLoaded();
        needStand(s);
        return floatBits(readNow(s).shareOfWord(route, s));
    }

    public int missing(int s) throws IllegalStateException, IndexOutOfBoundsException {
        needLoaded();
        needStand(s);
        int lacking = 0;
        for (int letter = 1; letter <= LETTERS; letter++) {
            lacking += Math.max(0, route.lettersInWord(s, letter) - now.row.carriersOf(letter));
        }
        return lacking;
    }

    public int seenAt(int s, int k) throws IllegalStateException, IndexOutOfBoundsException {
        needLoaded();
        needStand(s);
        return readNow(s).bearerOfLetter(k);
    }

    public int blanks(int s) throws IllegalStateException, IndexOutOfBoundsException {
        needLoaded();
        needStand(s);
        Reading text = readNow(s);
        return text.length - text.letters;
    }

    public int prefix(int s) throws IllegalStateException, IndexOutOfBoundsException {
        needLoaded();
        needStand(s);
        return readNow(s).alikeAtStart(route, s);
    }

    public int holder(int letter) throws IllegalStateException, IllegalArgumentException {
        needLoaded();
        needRange(letter, 1, LETTERS);
        for (int b = 0; b < now.row.size; b++) {
            if (now.row.banner[b] == letter) {
                return b;
            }
        }
        return NONE;
    }

    public int copies(int letter) throws IllegalStateException, IllegalArgumentException {
        needLoaded();
        needRange(letter, 1, LETTERS);
        return now.row.carriersOf(letter) + now.ground.withLetter(letter);
    }

    public int tired(int strength) throws IllegalStateException, IllegalArgumentException {
        needLoaded();
        needRange(strength, 0, MAX_STRENGTH);
        return now.row.upToStrength(strength);
    }

    public int swappers() throws IllegalStateException {
        needLoaded();
        int set = 0;
        for (int b = 0; b < now.row.size; b++) {
            if (now.maySwap(b)) {
                set |= 1 << b;
            }
        }
        return set;
    }

    public int nextPlan() throws IllegalStateException {
        needLoaded();
        return now.plans.soonest();
    }

    public int lyingFrom(int from, int to) throws IllegalStateException {
        needLoaded();
        return now.ground.between(from, to);
    }

    public int bestStand() throws IllegalStateException {
        needLoaded();
        int best = NONE;
        float greatest = -1f;
        for (int s = 0; s < route.size; s++) {
            float candidate = readNow(s).shareOfWord(route, s);
            if (candidate > greatest) {
                best = s;
                greatest = candidate;
            }
        }
        return best;
    }

    public int readStands() throws IllegalStateException {
        needLoaded();
        return standsWithReadWord();
    }

    public int weakest() throws IllegalStateException {
        needLoaded();
        int least = NONE;
        for (int b = 0; b < now.row.size; b++) {
            if (least == NONE || now.row.strength[b] < now.row.strength[least]) {
                least = b;
            }
        }
        return least;
    }

    public int widest() throws IllegalStateException {
        needLoaded();
        int greatest = NONE;
        for (int b = 1; b < now.row.size; b++) {
            if (greatest == NONE || now.row.distanceAhead(b) > now.row.distanceAhead(greatest)) {
                greatest = b;
            }
        }
        return greatest;
    }

    public int stretch() throws IllegalStateException {
        needLoaded();
        Row row = now.row;
        return row.size < 2 ? 0 : row.place[0] - row.place[row.size - 1];
    }

    public double meanStrength() throws IllegalStateException {
        needLoaded();
        return now.row.meanOfStrength();
    }

    public long strengthBits() throws IllegalStateException {
        needLoaded();
        return doubleBits(now.row.meanOfStrength());
    }

    // ---- what would be

    public int readsIn(int s) throws IllegalStateException, IndexOutOfBoundsException {
        needLoaded();
        needStand(s);
        later.copyFrom(now);
        for (int ticks = 0; ticks < FORESIGHT; ticks++) {
            if (readLater(s).isWord(route, s)) {
                return ticks;
            }
            later.passTick();
        }
        return readLater(s).isWord(route, s) ? FORESIGHT : NONE;
    }

    public int passedIn(int s) throws IllegalStateException, IndexOutOfBoundsException {
        needLoaded();
        needStand(s);
        int end = route.place[s] + now.settings[REACH];
        later.copyFrom(now);
        for (int ticks = 0; ticks < FORESIGHT; ticks++) {
            if (later.row.beyond(end) == later.row.size) {
                return ticks;
            }
            later.passTick();
        }
        return later.row.beyond(end) == later.row.size ? FORESIGHT : NONE;
    }

    public int placeIn(int b, int ticks)
            throws IllegalStateException, IndexOutOfBoundsException, IllegalArgumentException {
        needLoaded();
        needBearer(b);
        needRange(ticks, 0, FORESIGHT);
        foresee(ticks);
        return later.row.place[b];
    }

    public int strengthIn(int b, int ticks)
            throws IllegalStateException, IndexOutOfBoundsException, IllegalArgumentException {
        needLoaded();
        needBearer(b);
        needRange(ticks, 0, FORESIGHT);
        foresee(ticks);
        return later.row.strength[b];
    }

    public int bannerIn(int b, int ticks)
            throws IllegalStateException, IndexOutOfBoundsException, IllegalArgumentException {
        needLoaded();
        needBearer(b);
        needRange(ticks, 0, FORESIGHT);
        foresee(ticks);
        return later.row.banner[b];
    }

    public int dropsIn(int ticks) throws IllegalStateException, IllegalArgumentException {
        needLoaded();
        needRange(ticks, 0, FORESIGHT);
        foresee(ticks);
        return later.dropsDone - now.dropsDone;
    }

    public int firstDrop() throws IllegalStateException {
        needLoaded();
        later.copyFrom(now);
        return ticksToDrop(FORESIGHT);
    }

    public float shareIn(int s, int ticks)
            throws IllegalStateException, IndexOutOfBoundsException, IllegalArgumentException {
        needLoaded();
        needStand(s);
        needRange(ticks, 0, FORESIGHT);
        foresee(ticks);
        return readLater(s).shareOfWord(route, s);
    }

    public float bestShare(int s, int ticks)
            throws IllegalStateException, IndexOutOfBoundsException, IllegalArgumentException {
        needLoaded();
        needStand(s);
        needRange(ticks, 0, FORESIGHT);
        later.copyFrom(now);
        float greatest = readLater(s).shareOfWord(route, s);
        for (int k = 0; k < ticks; k++) {
            later.passTick();
            float candidate = readLater(s).shareOfWord(route, s);
            greatest = candidate > greatest ? candidate : greatest;
        }
        return greatest;
    }

    public int bestSwap(int s) throws IllegalStateException, IndexOutOfBoundsException {
        needLoaded();
        needStand(s);
        int best = NONE;
        float greatest = readNow(s).shareOfWord(route, s);
        later.copyFrom(now);
        for (int b = 0; b + 1 < later.row.size; b++) {
            later.row.exchangeBanners(b);
            float candidate = readLater(s).shareOfWord(route, s);
            later.row.exchangeBanners(b);
            if (candidate > greatest) {
                best = b;
                greatest = candidate;
            }
        }
        return best;
    }

    public int closedIn(int b) throws IllegalStateException, IndexOutOfBoundsException {
        needLoaded();
        needBearer(b);
        if (b == 0) {
            return NONE;
        }
        int space = now.settings[SPACE];
        later.copyFrom(now);
        for (int ticks = 0; ticks < FORESIGHT; ticks++) {
            if (later.row.distanceAhead(b) == space) {
                return ticks;
            }
            later.passTick();
        }
        return later.row.distanceAhead(b) == space ? FORESIGHT : NONE;
    }

    public int leastRest() throws IllegalStateException {
        needLoaded();
        for (int candidate = 0; candidate <= MAX_REST; candidate++) {
            later.copyFrom(now);
            later.settings[REST] = candidate;
            if (ticksToDrop(REST_FORESIGHT) == NONE) {
                return candidate;
            }
        }
        return NONE;
    }

    // ---- texts

    public int writeStand(int s) throws IllegalStateException, IndexOutOfBoundsException {
        needLoaded();
        needStand(s);
        Reading text = readNow(s);
        written.length = 0;
        for (int i = 0; i < text.length; i++) {
            written.addByte(text.byteAt(i));
        }
        return written.length;
    }

    public int writeRow() throws IllegalStateException {
        needLoaded();
        written.length = 0;
        for (int b = 0; b < now.row.size; b++) {
            int letter = now.row.banner[b];
            written.addByte(letter == 0 ? MINUS : AHEAD_OF_A + letter);
        }
        return written.length;
    }

    public int writePlaces() throws IllegalStateException {
        needLoaded();
        written.length = 0;
        for (int b = 0; b < now.row.size; b++) {
            if (b > 0) {
                written.addByte(COMMA);
            }
            written.addNumber(now.row.place[b]);
        }
        return written.length;
    }

    public int textByte(int i) throws IndexOutOfBoundsException {
        needIndex(i, written.length);
        return written.values[i];
    }

    // ---- changes

    public int tick(int ticks) throws IllegalStateException, IllegalArgumentException {
        needLoaded();
        needRange(ticks, 1, MAX_TICKS);
        needArgument(now.time + ticks <= MAX_TIME);
        memory.remember(now);
        int readBefore = Integer.bitCount(standsWithReadWord());
        for (int k = 0; k < ticks; k++) {
            now.passTick();
            readWords();
        }
        return Integer.bitCount(standsWithReadWord()) - readBefore;
    }

    public int swap(int b)
            throws IllegalStateException, IndexOutOfBoundsException, IllegalArgumentException {
        needLoaded();
        needBearer(b);
        needArgument(now.maySwap(b));
        memory.remember(now);
        now.swapBanners(b);
        return now.row.banner[b];
    }

    public int drop(int b)
            throws IllegalStateException, IndexOutOfBoundsException, IllegalArgumentException {
        needLoaded();
        needBearer(b);
        needArgument(now.row.banner[b] != 0);
        memory.remember(now);
        now.dropBanner(b);
        return now.ground.size;
    }

    public int pick(int b)
            throws IllegalStateException, IndexOutOfBoundsException, IllegalArgumentException {
        needLoaded();
        needBearer(b);
        int found = now.ground.bestBetween(now.row.place[b], now.row.place[b]);
        needArgument(now.mayLift(b) && found != NONE);
        memory.remember(now);
        now.liftBanner(b, found);
        return now.row.banner[b];
    }

    public int strengthen(int b, int by)
            throws IllegalStateException, IndexOutOfBoundsException, IllegalArgumentException {
        needLoaded();
        needBearer(b);
        needRange(by, -MAX_STRENGTH, MAX_STRENGTH);
        memory.remember(now);
        now.row.addStrength(b, by);
        return now.row.strength[b];
    }

    public int rest(int by) throws IllegalStateException, IllegalArgumentException {
        needLoaded();
        needRange(by, 1, MAX_STRENGTH);
        memory.remember(now);
        for (int b = 0; b < now.row.size; b++) {
            now.row.addStrength(b, by);
        }
        return now.row.strengthSum();
    }

    public int setStep(int b, int step)
            throws IllegalStateException, IndexOutOfBoundsException, IllegalArgumentException {
        needLoaded();
        needBearer(b);
        needRange(step, 1, MAX_STEP);
        memory.remember(now);
        int previous = now.row.step[b];
        now.row.step[b] = step;
        return previous;
    }

    public int addPlan(int time, int b)
            throws IllegalStateException, IndexOutOfBoundsException, IllegalArgumentException {
        needLoaded();
        needBearer(b);
        needRange(time, now.time + 1, MAX_TIME);
        needArgument(b + 1 < now.row.size && now.plans.size < MAX_PLANS);
        memory.remember(now);
        now.plans.add(time, b);
        return now.plans.size - 1;
    }

    public int set(int what, int value) throws IllegalStateException, IllegalArgumentException {
        needLoaded();
        needRange(what, 0, SETTINGS - 1);
        needRange(value, LEAST_SETTINGS[what], GREATEST_SETTINGS[what]);
        memory.remember(now);
        int previous = now.settings[what];
        now.settings[what] = value;
        return previous;
    }

    public int undo() throws IllegalStateException {
        if (memory.kept == 0) {
            throw new IllegalStateException("no change can be undone");
        }
        memory.takeBack(now);
        return memory.kept;
    }

    public int undoable() {
        return memory.kept;
    }

    public int save(int slot) throws IllegalStateException, IndexOutOfBoundsException {
        needLoaded();
        needIndex(slot, MAX_SLOTS);
        memory.fillSlot(slot, now);
        return now.time;
    }

    public int restore(int slot) throws IndexOutOfBoundsException, IllegalStateException {
        needIndex(slot, MAX_SLOTS);
        if (!memory.slotFilled[slot]) {
            throw new IllegalStateException("nothing is saved there");
        }
        memory.readSlot(slot, now);
        memory.forgetChanges();
        return now.time;
    }

    // ---- what the calls share

    private void needLoaded() {
        if (!loaded) {
            throw new IllegalStateException("no text was loaded");
        }
    }

    private void needBearer(int b) {
        needIndex(b, now.row.size);
    }

    private void needStand(int s) {
        needIndex(s, route.size);
    }

    private static void needIndex(int index, int size) {
        if (index < 0 || index >= size) {
            throw new IndexOutOfBoundsException("no such index");
        }
    }

    private static void needRange(int value, int least, int greatest) {
        needArgument(value >= least && value <= greatest);
    }

    private static void needArgument(boolean fits) {
        if (!fits) {
            throw new IllegalArgumentException("an argument does not fit");
        }
    }

    private Reading readNow(int s) {
        reading.read(now, route, s);
        return reading;
    }

    private Reading readLater(int s) {
        reading.read(later, route, s);
        return reading;
    }

    private void foresee(int ticks) {
        later.copyFrom(now);
        for (int k = 0; k < ticks; k++) {
            later.passTick();
        }
    }

    private int ticksToDrop(int limit) {
        for (int ticks = 1; ticks <= limit; ticks++) {
            later.passTick();
            if (later.dropsDone > now.dropsDone) {
                return ticks;
            }
        }
        return NONE;
    }

    private void readWords() {
        for (int s = 0; s < route.size; s++) {
            if (now.readAt[s] == NONE && readNow(s).isWord(route, s)) {
                now.readAt[s] = now.time;
            }
        }
    }

    private int standsWithReadWord() {
        int set = 0;
        for (int s = 0; s < route.size; s++) {
            if (now.readAt[s] != NONE) {
                set |= 1 << s;
            }
        }
        return set;
    }

    private int standsThatSeeAny() {
        int stands = 0;
        for (int s = 0; s < route.size; s++) {
            if (bearersSeenFrom(s) != 0) {
                stands++;
            }
        }
        return stands;
    }

    private int standsThatSee(int b) {
        int stands = 0;
        for (int s = 0; s < route.size; s++) {
            if (now.isInSight(b, route.place[s])) {
                stands++;
            }
        }
        return stands;
    }

    private int bearersSeenFrom(int s) {
        int set = 0;
        for (int b = 0; b < now.row.size; b++) {
            if (now.isInSight(b, route.place[s])) {
                set |= 1 << b;
            }
        }
        return set;
    }

    /** LANGUAGE.md leaves no library call for this; a share is 0 or from 1/23 to 1. */
    private static int floatBits(float value) {
        if (value <= 0f) {
            return 0;
        }
        int exponent = 127;
        float scaled = value;
        for (int k = 0; k < 60 && scaled < 1f; k++) {
            scaled = scaled * 2f;
            exponent--;
        }
        return (exponent << 23) + (int) ((scaled - 1f) * 8388608f);
    }

    /** As floatBits, for a mean, which is 0 or from 1/12 to 100. */
    private static long doubleBits(double value) {
        if (value <= 0.0) {
            return 0L;
        }
        long exponent = 1023L;
        double scaled = value;
        for (int k = 0; k < 60 && scaled < 1.0; k++) {
            scaled = scaled * 2.0;
            exponent--;
        }
        for (int k = 0; k < 60 && scaled >= 2.0; k++) {
            scaled = scaled / 2.0;
            exponent++;
        }
        return (exponent << 52) + (long) ((scaled - 1.0) * 4503599627370496.0);
    }

    private static void copyNumbers(int[] from, int[] to) {
        for (int i = 0; i < to.length && i < from.length; i++) {
            to[i] = from[i];
        }
    }

    /** The row of bearers; bearers are only added by join, so size never exceeds the arrays. */
    private static final class Row {
        int size = 0;
        final int[] own = new int[MAX_BEARERS];
        final int[] step = new int[MAX_BEARERS];
        final int[] lag = new int[MAX_BEARERS];
        final int[] strength = new int[MAX_BEARERS];
        final int[] banner = new int[MAX_BEARERS];
        final int[] place = new int[MAX_BEARERS];
        // Set anew by each march and used in the same tick only, so it is never copied.
        final int[] placeBefore = new int[MAX_BEARERS];
        final int[] moved = new int[MAX_BEARERS];

        void copyFrom(Row other) {
            size = other.size;
            copyNumbers(other.own, own);
            copyNumbers(other.step, step);
            copyNumbers(other.lag, lag);
            copyNumbers(other.strength, strength);
            copyNumbers(other.banner, banner);
            copyNumbers(other.place, place);
            copyNumbers(other.moved, moved);
        }

        void join(int letter, int newStep, int newLag, int space) {
            if (size >= MAX_BEARERS) {
                return;
            }
            own[size] = letter;
            step[size] = newStep;
            lag[size] = newLag;
            strength[size] = MAX_STRENGTH;
            banner[size] = letter;
            place[size] = -space * size;
            placeBefore[size] = place[size];
            moved[size] = 0;
            size++;
        }

        int strideOf(int b) {
            return (int) ((float) step[b] * (float) strength[b] / 100f);
        }

        int distanceAhead(int b) {
            return b > 0 ? place[b - 1] - place[b] : NONE;
        }

        void addStrength(int b, int by) {
            strength[b] = Math.max(0, Math.min(MAX_STRENGTH, strength[b] + by));
        }

        void exchangeBanners(int b) {
            if (b < 0 || b + 1 >= size) {
                return;
            }
            int letter = banner[b];
            banner[b] = banner[b + 1];
            banner[b + 1] = letter;
        }

        void march(int space, int regained) {
            for (int b = 0; b < size; b++) {
                int goal = place[b] + strideOf(b);
                if (b > 0) {
                    goal = Math.min(goal, place[b - 1] - space);
                }
                placeBefore[b] = place[b];
                if (goal > place[b]) {
                    place[b] = goal;
                    moved[b]++;
                    addStrength(b, -lag[b]);
                } else {
                    addStrength(b, regained);
                }
            }
        }

        int carriers() {
            int bearers = 0;
            for (int b = 0; b < size; b++) {
                if (banner[b] != 0) {
                    bearers++;
                }
            }
            return bearers;
        }

        int carriersOf(int letter) {
            int bearers = 0;
            for (int b = 0; b < size; b++) {
                if (banner[b] == letter) {
                    bearers++;
                }
            }
            return bearers;
        }

        int carriersOfOwnLetter() {
            int bearers = 0;
            for (int b = 0; b < size; b++) {
                if (banner[b] == own[b]) {
                    bearers++;
                }
            }
            return bearers;
        }

        int withinSpace(int space) {
            int bearers = 0;
            for (int b = 1; b < size; b++) {
                if (distanceAhead(b) <= space) {
                    bearers++;
                }
            }
            return bearers;
        }

        int strideSum() {
            int sum = 0;
            for (int b = 0; b < size; b++) {
                sum += strideOf(b);
            }
            return sum;
        }

        int strengthSum() {
            int sum = 0;
            for (int b = 0; b < size; b++) {
                sum += strength[b];
            }
            return sum;
        }

        double meanOfStrength() {
            return size > 0 ? (double) strengthSum() / (double) size : 0.0;
        }

        int upToStrength(int limit) {
            int set = 0;
            for (int b = 0; b < size; b++) {
                if (strength[b] <= limit) {
                    set |= 1 << b;
                }
            }
            return set;
        }

        int belowStrength(int limit) {
            int bearers = 0;
            for (int b = 0; b < size; b++) {
                if (strength[b] < limit) {
                    bearers++;
                }
            }
            return bearers;
        }

        int beyond(int limit) {
            int bearers = 0;
            for (int b = 0; b < size; b++) {
                if (place[b] > limit) {
                    bearers++;
                }
            }
            return bearers;
        }

        int shortOf(int limit) {
            int bearers = 0;
            for (int b = 0; b < size; b++) {
                if (place[b] < limit) {
                    bearers++;
                }
            }
            return bearers;
        }

        int leastDifference(int from) {
            int least = NONE;
            for (int b = 0; b < size; b++) {
                int difference = Math.abs(place[b] - from);
                if (least == NONE || difference < least) {
                    least = difference;
                }
            }
            return least;
        }
    }

    /** The banners that lie, the one dropped first at index 0; there are no more than bearers. */
    private static final class Ground {
        int size = 0;
        final int[] letter = new int[MAX_BEARERS];
        final int[] place = new int[MAX_BEARERS];
        final int[] time = new int[MAX_BEARERS];

        void copyFrom(Ground other) {
            size = other.size;
            copyNumbers(other.letter, letter);
            copyNumbers(other.place, place);
            copyNumbers(other.time, time);
        }

        void lay(int newLetter, int newPlace, int newTime) {
            if (size >= MAX_BEARERS) {
                return;
            }
            letter[size] = newLetter;
            place[size] = newPlace;
            time[size] = newTime;
            size++;
        }

        void removeAt(int index) {
            if (index < 0 || index >= size) {
                return;
            }
            for (int k = index; k + 1 < size; k++) {
                letter[k] = letter[k + 1];
                place[k] = place[k + 1];
                time[k] = time[k + 1];
            }
            size--;
        }

        int between(int from, int to) {
            int banners = 0;
            for (int k = 0; k < size; k++) {
                if (place[k] >= from && place[k] <= to) {
                    banners++;
                }
            }
            return banners;
        }

        int bestBetween(int from, int to) {
            int best = NONE;
            for (int k = 0; k < size; k++) {
                boolean within = place[k] >= from && place[k] <= to;
                if (within && (best == NONE || place[k] > place[best])) {
                    best = k;
                }
            }
            return best;
        }

        int withLetter(int wanted) {
            int banners = 0;
            for (int k = 0; k < size; k++) {
                if (letter[k] == wanted) {
                    banners++;
                }
            }
            return banners;
        }
    }

    /** The plans; plans are only added by add, so size never exceeds the arrays. */
    private static final class Plans {
        int size = 0;
        final int[] time = new int[MAX_PLANS];
        final int[] ahead = new int[MAX_PLANS];
        final int[] outcome = new int[MAX_PLANS];

        void copyFrom(Plans other) {
            size = other.size;
            copyNumbers(other.time, time);
            copyNumbers(other.ahead, ahead);
            copyNumbers(other.outcome, outcome);
        }

        void add(int newTime, int bearerAhead) {
            if (size >= MAX_PLANS) {
                return;
            }
            time[size] = newTime;
            ahead[size] = bearerAhead;
            outcome[size] = TO_COME;
            size++;
        }

        int withOutcome(int wanted) {
            int plans = 0;
            for (int k = 0; k < size; k++) {
                if (outcome[k] == wanted) {
                    plans++;
                }
            }
            return plans;
        }

        int soonest() {
            int best = NONE;
            for (int k = 0; k < size; k++) {
                if (outcome[k] == TO_COME && (best == NONE || time[k] < time[best])) {
                    best = k;
                }
            }
            return best;
        }
    }

    /** The stands, which no change touches; when their words were read is part of the state. */
    private static final class Route {
        int size = 0;
        final int[] right = new int[MAX_STANDS];
        final int[] place = new int[MAX_STANDS];
        final int[] wordLength = new int[MAX_STANDS];
        final int[] wordBytes = new int[MAX_STANDS * MAX_WORD];

        void copyFrom(Route other) {
            size = other.size;
            copyNumbers(other.right, right);
            copyNumbers(other.place, place);
            copyNumbers(other.wordLength, wordLength);
            copyNumbers(other.wordBytes, wordBytes);
        }

        void add(int side, int newPlace) {
            if (size >= MAX_STANDS) {
                return;
            }
            right[size] = side;
            place[size] = newPlace;
            wordLength[size] = 0;
            size++;
        }

        void lengthenLastWord(int value) {
            int s = size - 1;
            if (s < 0 || wordLength[s] >= MAX_WORD) {
                return;
            }
            wordBytes[s * MAX_WORD + wordLength[s]] = value;
            wordLength[s]++;
        }

        int byteOfWord(int s, int i) {
            return i >= 0 && i < wordLength[s] ? wordBytes[s * MAX_WORD + i] : NONE;
        }

        int lettersInWord(int s, int letter) {
            int found = 0;
            for (int i = 0; i < wordLength[s]; i++) {
                if (byteOfWord(s, i) == AHEAD_OF_A + letter) {
                    found++;
                }
            }
            return found;
        }
    }

    /** All that undo and restore bring back. */
    private static final class State {
        int time = 0;
        int swapsDone = 0;
        int dropsDone = 0;
        int picksDone = 0;
        final int[] settings = new int[SETTINGS];
        final int[] readAt = new int[MAX_STANDS];
        final Row row = new Row();
        final Ground ground = new Ground();
        final Plans plans = new Plans();

        void copyFrom(State other) {
            time = other.time;
            swapsDone = other.swapsDone;
            dropsDone = other.dropsDone;
            picksDone = other.picksDone;
            copyNumbers(other.settings, settings);
            copyNumbers(other.readAt, readAt);
            row.copyFrom(other.row);
            ground.copyFrom(other.ground);
            plans.copyFrom(other.plans);
        }

        void clear() {
            time = 0;
            swapsDone = 0;
            dropsDone = 0;
            picksDone = 0;
            row.size = 0;
            ground.size = 0;
            plans.size = 0;
            for (int s = 0; s < readAt.length; s++) {
                readAt[s] = NONE;
            }
        }

        /** A tick but for the reading of words, which no later tick depends on. */
        void passTick() {
            time++;
            doPlans();
            row.march(settings[SPACE], settings[REST]);
            dropOfTheWeak();
            liftOnTheWay();
        }

        void doPlans() {
            for (int k = 0; k < plans.size; k++) {
                if (plans.time[k] == time) {
                    boolean fits = maySwap(plans.ahead[k]);
                    plans.outcome[k] = fits ? DONE : MISSED;
                    if (fits) {
                        swapBanners(plans.ahead[k]);
                    }
                }
            }
        }

        void dropOfTheWeak() {
            for (int b = 0; b < row.size; b++) {
                if (row.banner[b] != 0 && row.strength[b] == 0) {
                    dropBanner(b);
                }
            }
        }

        void liftOnTheWay() {
            for (int b = 0; b < row.size; b++) {
                if (ground.size > 0 && mayLift(b)) {
                    liftBanner(b, ground.bestBetween(row.placeBefore[b], row.place[b]));
                }
            }
        }

        boolean maySwap(int b) {
            return b >= 0 && b + 1 < row.size
                    && row.distanceAhead(b + 1) <= settings[NEAR]
                    && row.strength[b] >= 1 && row.strength[b + 1] >= 1;
        }

        void swapBanners(int b) {
            row.exchangeBanners(b);
            row.addStrength(b, -SWAP_COST);
            row.addStrength(b + 1, -SWAP_COST);
            swapsDone++;
        }

        void dropBanner(int b) {
            ground.lay(row.banner[b], row.place[b], time);
            row.banner[b] = 0;
            dropsDone++;
        }

        boolean mayLift(int b) {
            return row.banner[b] == 0 && row.strength[b] >= settings[LIFT];
        }

        void liftBanner(int b, int found) {
            if (found < 0 || found >= ground.size) {
                return;
            }
            row.banner[b] = ground.letter[found];
            ground.removeAt(found);
            picksDone++;
        }

        boolean isInSight(int b, int from) {
            return row.banner[b] != 0 && Math.abs(row.place[b] - from) <= settings[REACH];
        }
    }

    /** The text that a stand reads in some state, and who carries its letters. */
    private static final class Reading {
        int length = 0;
        int letters = 0;
        final int[] values = new int[2 * MAX_BEARERS];
        final int[] carrier = new int[MAX_BEARERS];

        void read(State state, Route route, int s) {
            length = 0;
            letters = 0;
            Row row = state.row;
            for (int k = 0; k < row.size; k++) {
                int b = route.right[s] == 1 ? row.size - 1 - k : k;
                if (state.isInSight(b, route.place[s])) {
                    addLetter(row, b, state.settings[WIDE]);
                }
            }
        }

        void addLetter(Row row, int b, int wide) {
            if (letters >= carrier.length || length + 1 >= values.length) {
                return;
            }
            if (letters > 0 && Math.abs(row.place[b] - row.place[carrier[letters - 1]]) > wide) {
                values[length] = BLANK;
                length++;
            }
            values[length] = AHEAD_OF_A + row.banner[b];
            length++;
            carrier[letters] = b;
            letters++;
        }

        int byteAt(int i) {
            return i >= 0 && i < length ? values[i] : NONE;
        }

        int bearerOfLetter(int k) {
            return k >= 0 && k < letters ? carrier[k] : NONE;
        }

        int alike(Route route, int s) {
            int places = 0;
            for (int i = 0; i < length && i < route.wordLength[s]; i++) {
                if (values[i] == route.byteOfWord(s, i)) {
                    places++;
                }
            }
            return places;
        }

        int alikeAtStart(Route route, int s) {
            int limit = Math.min(length, route.wordLength[s]);
            for (int i = 0; i < limit; i++) {
                if (values[i] != route.byteOfWord(s, i)) {
                    return i;
                }
            }
            return limit;
        }

        boolean isWord(Route route, int s) {
            return length == route.wordLength[s] && alike(route, s) == length;
        }

        float shareOfWord(Route route, int s) {
            int longer = Math.max(length, route.wordLength[s]);
            return longer > 0 ? (float) alike(route, s) / (float) longer : 0f;
        }
    }

    /** The text that was written last. */
    private static final class Bytes {
        int length = 0;
        final int[] values = new int[MAX_TEXT];

        void addByte(int value) {
            if (length < values.length) {
                values[length] = value;
                length++;
            }
        }

        void addNumber(int number) {
            if (number < 0) {
                addByte(MINUS);
            }
            int size = Math.abs(number);
            int digits = 1;
            for (int left = size / 10; left > 0 && digits < 10; left = left / 10) {
                digits++;
            }
            int end = length + digits;
            if (end > values.length) {
                return;
            }
            for (int i = end - 1; i >= length; i--) {
                values[i] = DIGIT_ZERO + size % 10;
                size = size / 10;
            }
            length = end;
        }
    }

    /** The states ahead of the latest changes, as a ring, and the saved ones. */
    private static final class Memory {
        int oldest = 0;
        int kept = 0;
        final State[] ring = new State[MAX_CHANGES];
        final State[] slots = new State[MAX_SLOTS];
        final boolean[] slotFilled = new boolean[MAX_SLOTS];

        Memory() {
            for (int i = 0; i < ring.length; i++) {
                ring[i] = new State();
            }
            for (int i = 0; i < slots.length; i++) {
                slots[i] = new State();
            }
        }

        void forgetChanges() {
            oldest = 0;
            kept = 0;
        }

        void forgetSlots() {
            for (int i = 0; i < slotFilled.length; i++) {
                slotFilled[i] = false;
            }
        }

        void remember(State state) {
            copyState(state, ring[(oldest + kept) % MAX_CHANGES]);
            if (kept < MAX_CHANGES) {
                kept++;
            } else {
                oldest = (oldest + 1) % MAX_CHANGES;
            }
        }

        void takeBack(State state) {
            if (kept > 0) {
                kept--;
                copyState(ring[(oldest + kept) % MAX_CHANGES], state);
            }
        }

        void fillSlot(int slot, State state) {
            copyState(state, slots[slot]);
            slotFilled[slot] = true;
        }

        void readSlot(int slot, State state) {
            copyState(slots[slot], state);
        }

        static void copyState(State from, State to) {
            if (from != null && to != null) {
                to.copyFrom(from);
            }
        }
    }

    /** The input buffer and the token of it that was read last. */
    private static final class Tokens {
        static final int END = 0;
        static final int WORD = 1;
        static final int NUMBER = 2;
        static final int LINE_MARK = 3;
        static final int BAD = 4;

        final int[] bytes = new int[MAX_INPUT];
        int filled = 0;
        int limit = 0;
        int start = 0;
        int next = 0;
        int kind = END;
        int number = 0;

        int putTwenty(int a, int b, int c, int d, int e) {
            if (filled + 20 > MAX_INPUT) {
                return NONE;
            }
            putFour(a);
            putFour(b);
            putFour(c);
            putFour(d);
            putFour(e);
            return filled;
        }

        void putFour(int word) {
            for (int shift = 24; shift >= 0 && filled < bytes.length; shift -= 8) {
                bytes[filled] = (word >>> shift) & 255;
                filled++;
            }
        }

        void begin(int n) {
            limit = Math.max(0, Math.min(n, bytes.length));
            next = 0;
        }

        void readToken() {
            while (next < limit && bytes[next] == BLANK) {
                next++;
            }
            start = next;
            if (start >= limit) {
                kind = END;
            } else if (bytes[start] >= LETTER_A && bytes[start] <= LETTER_Z) {
                readWord();
            } else if (bytes[start] >= DIGIT_ZERO && bytes[start] <= DIGIT_NINE) {
                readDigits();
            } else {
                kind = bytes[start] == SEMICOLON ? LINE_MARK : BAD;
                next++;
            }
        }

        void readWord() {
            while (next < limit && bytes[next] >= LETTER_A && bytes[next] <= LETTER_Z) {
                next++;
            }
            kind = next - start <= MAX_WORD ? WORD : BAD;
        }

        void readDigits() {
            number = 0;
            while (next < limit && bytes[next] >= DIGIT_ZERO && bytes[next] <= DIGIT_NINE) {
                number = number * 10 + bytes[next] - DIGIT_ZERO;
                next++;
            }
            kind = next - start <= MAX_DIGITS ? NUMBER : BAD;
        }

        int wordLength() {
            return kind == WORD ? next - start : 0;
        }

        int byteOfToken(int i) {
            int at = start + i;
            return i >= 0 && at >= 0 && at < next && at < bytes.length ? bytes[at] : NONE;
        }

        boolean isWord(String word) {
            if (wordLength() != word.length()) {
                return false;
            }
            for (int i = 0; i < word.length(); i++) {
                if (byteOfToken(i) != word.charAt(i)) {
                    return false;
                }
            }
            return true;
        }
    }

    /** Parses into a state and a route of its own, so that a text with an error spoils nothing. */
    private static final class Parser {
        final Tokens tokens = new Tokens();
        final State state = new State();
        final Route route = new Route();
        int error = 0;
        int errorAt = NONE;

        boolean parseText(int n) {
            error = 0;
            errorAt = NONE;
            state.clear();
            route.size = 0;
            tokens.begin(n);
            if (!parseHead()) {
                return false;
            }
            tokens.readToken();
            for (int k = 0; k < MAX_INPUT && tokens.kind == Tokens.LINE_MARK; k++) {
                if (!parseLine()) {
                    return false;
                }
                tokens.readToken();
            }
            return tokens.kind == Tokens.END || refuse(GRAMMAR_ERROR);
        }

        boolean refuse(int code) {
            error = code;
            errorAt = tokens.start;
            return false;
        }

        boolean parseHead() {
            tokens.readToken();
            if (!tokens.isWord("parade")) {
                return refuse(GRAMMAR_ERROR);
            }
            for (int what = 0; what < SETTINGS; what++) {
                if (!parseNumber(LEAST_SETTINGS[what], GREATEST_SETTINGS[what])) {
                    return false;
                }
                state.settings[what] = tokens.number;
            }
            return true;
        }

        boolean parseLine() {
            tokens.readToken();
            if (tokens.isWord("bearer")) {
                return state.row.size < MAX_BEARERS ? parseBearer() : refuse(TOO_MANY_ERROR);
            }
            if (tokens.isWord("stand")) {
                return route.size < MAX_STANDS ? parseStand() : refuse(TOO_MANY_ERROR);
            }
            if (tokens.isWord("plan")) {
                return state.plans.size < MAX_PLANS ? parsePlan() : refuse(TOO_MANY_ERROR);
            }
            return refuse(GRAMMAR_ERROR);
        }

        boolean parseBearer() {
            tokens.readToken();
            if (tokens.wordLength() != 1) {
                return refuse(GRAMMAR_ERROR);
            }
            int letter = tokens.byteOfToken(0) - AHEAD_OF_A;
            if (!parseNumber(1, MAX_STEP)) {
                return false;
            }
            int step = tokens.number;
            if (!parseNumber(0, MAX_LAG)) {
                return false;
            }
            state.row.join(letter, step, tokens.number, state.settings[SPACE]);
            return true;
        }

        boolean parseStand() {
            tokens.readToken();
            boolean right = tokens.isWord("right");
            if (!right && !tokens.isWord("left")) {
                return refuse(GRAMMAR_ERROR);
            }
            if (!parseNumber(0, MAX_PLACE)) {
                return false;
            }
            int place = tokens.number;
            tokens.readToken();
            if (tokens.kind != Tokens.WORD) {
                return refuse(GRAMMAR_ERROR);
            }
            route.add(right ? 1 : 0, place);
            for (int i = 0; i < tokens.wordLength(); i++) {
                route.lengthenLastWord(tokens.byteOfToken(i));
            }
            return true;
        }

        boolean parsePlan() {
            if (!parseNumber(1, MAX_TIME)) {
                return false;
            }
            int time = tokens.number;
            if (!parseNumber(0, state.row.size - 2)) {
                return false;
            }
            state.plans.add(time, tokens.number);
            return true;
        }

        boolean parseNumber(int least, int greatest) {
            tokens.readToken();
            if (tokens.kind != Tokens.NUMBER) {
                return refuse(GRAMMAR_ERROR);
            }
            if (tokens.number < least || tokens.number > greatest) {
                return refuse(BOUNDS_ERROR);
            }
            return true;
        }
    }
}
