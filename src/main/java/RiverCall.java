/**
 * A call on the river: who takes how much water on a day, by age, and what follows from it.
 * The document (DOC.md) tells what each method answers; its words in capitals are used here.
 */
public final class RiverCall {
    public static final int NONE = -1;

    private static final int NOTHING = -2;
    private static final int REFUSED = -3;
    private static final int NO_INT = -2147483648;
    private static final long NO_LONG = -9223372036854775808L;

    private static final int MAX_REACHES = 12;
    private static final int MAX_RIGHTS = 14;
    private static final int MAX_STORES = 4;
    private static final int MAX_TAKERS = MAX_RIGHTS + MAX_STORES;
    /** Where RIGHTS and STORES stand in one row, STORES begin here. */
    private static final int FIRST_STORE = MAX_RIGHTS;
    /** The face tells a STORE among RIGHTS as this and its number. */
    private static final int STORE = 100;

    private static final int YEAR = 360;
    private static final int QUARTER = 90;
    private static final int QUARTERS = 4;
    /** A YEAR is a multiple of it, so a DAY's number alone tells its row of what is on its way. */
    private static final int MAX_DELAY = 30;

    private static final int MAX_TAPE = 400;
    private static final int FEED = 20;
    private static final int MAX_AMOUNT = 9999;
    private static final int MAX_VOLUME = 999999;
    private static final int MAX_WET = 400;
    private static final int USUAL_WET = 100;
    private static final int MAX_ACTS = 10;
    private static final int SHELVES = 2;
    private static final int MAX_STEP = 60;
    private static final int MAX_DRY = 10;

    private static final int INFLOWS = 0;
    private static final int MOUTH = 1;
    private static final int SINKS = 2;
    private static final int TAKEN = 3;
    private static final int RUN_BACK = 4;
    private static final int DAYS = 5;
    private static final int SUMS = 6;

    private final byte[] tape = new byte[MAX_TAPE];
    private int taped;
    private River river = new River();
    private River spare = new River();
    private final State state = new State();
    private final State[] past = new State[MAX_ACTS];
    private int nextPast;
    private int acts;
    private final River[] shelfRivers = new River[SHELVES];
    private final State[] shelfStates = new State[SHELVES];
    private int kept;
    private final Day today;
    private final Outlook outlook;
    private final RiverReader reader;
    private final RiverWriter writer;
    private final int[] unchanged = new int[MAX_RIGHTS];

    public RiverCall() {
        for (int i = 0; i < MAX_ACTS; i++) {
            past[i] = new State();
        }
        for (int i = 0; i < SHELVES; i++) {
            shelfRivers[i] = new River();
            shelfStates[i] = new State();
        }
        today = new Day(river, state);
        outlook = new Outlook(river, state);
        reader = new RiverReader(tape, river);
        writer = new RiverWriter(river, state);
    }

    public int feed(int a, int b, int c, int d, int e) {
        if (taped + FEED > MAX_TAPE) {
            return NONE;
        }
        putNumber(a);
        putNumber(b);
        putNumber(c);
        putNumber(d);
        putNumber(e);
        return taped;
    }

    private void putNumber(int number) {
        for (int shift = 24; shift >= 0; shift -= 8) {
            if (taped < MAX_TAPE) {
                tape[taped] = (byte) (number >>> shift);
                taped++;
            }
        }
    }

    public int end(int n) {
        if (n < 0 || n > taped) {
            return NONE;
        }
        taped = n;
        return n;
    }

    public int tell() {
        int fault = reader.readRiver(spare, taped);
        taped = 0;
        if (fault != 0) {
            return NOTHING - fault;
        }
        River told = spare;
        spare = river;
        river = told;
        state.startAs(river);
        acts = 0;
        return river.rights;
    }

    public int days(int n) {
        if (n < 1 || n > MAX_STEP) {
            return NONE;
        }
        remember();
        today.open(river, state);
        for (int i = 0; i < n; i++) {
            today.work();
            today.pass();
        }
        return state.day;
    }

    public int wet(int percent) {
        if (percent < 0 || percent > MAX_WET) {
            return NONE;
        }
        int before = state.wet;
        if (before == percent) {
            return NOTHING;
        }
        remember();
        state.wet = percent;
        return before;
    }

    public int demand(int right, int v) {
        if (!isRight(right) || v < 0 || v > river.rate[right]) {
            return NONE;
        }
        int before = state.demand[right];
        if (before == v) {
            return NOTHING;
        }
        remember();
        state.demand[right] = v;
        return before;
    }

    public int order(int store, int right, int amount) {
        if (!isStore(store) || !isRight(right) || amount < 0 || amount > MAX_AMOUNT) {
            return NONE;
        }
        boolean same = state.orderRight[store] == right && state.orderAmount[store] == amount;
        boolean stillNone = state.orderRight[store] < 0 && amount == 0;
        if (same || stillNone) {
            return NOTHING;
        }
        if (!river.runsTo(river.storeAt[store], state.at[right])) {
            return REFUSED;
        }
        remember();
        state.orderRight[store] = amount == 0 ? NOTHING : right;
        state.orderAmount[store] = amount;
        return 1;
    }

    public int barter(int right, int store) {
        if (!isRight(right) || store != NONE && !isStore(store)) {
            return NONE;
        }
        int wanted = store == NONE ? NOTHING : store;
        if (state.barter[right] == wanted) {
            return NOTHING;
        }
        if (store != NONE && !river.runsTo(state.at[right], river.storeAt[store])) {
            return REFUSED;
        }
        remember();
        state.barter[right] = wanted;
        return 1;
    }

    public int trade(int right, int other) {
        if (!areTwoRights(right, other)) {
            return NONE;
        }
        remember();
        state.tradeAges(right, other);
        return 1;
    }

    public int move(int right, int reach) {
        if (!isRight(right) || !isReach(reach)) {
            return NONE;
        }
        if (state.at[right] == reach) {
            return NOTHING;
        }
        lookAhead();
        if (hurtsSomebody(right, reach)) {
            return REFUSED;
        }
        remember();
        state.at[right] = reach;
        return 1;
    }

    public int undo() {
        if (acts <= 0) {
            return NONE;
        }
        nextPast = (nextPast + MAX_ACTS - 1) % MAX_ACTS;
        state.copyOf(past[nextPast]);
        acts--;
        return acts;
    }

    private void remember() {
        past[nextPast].copyOf(state);
        nextPast = (nextPast + 1) % MAX_ACTS;
        acts = Math.min(acts + 1, MAX_ACTS);
    }

    public int keep(int shelf) {
        if (shelf < 0 || shelf >= SHELVES) {
            return NONE;
        }
        shelfRivers[shelf].copyOf(river);
        shelfStates[shelf].copyOf(state);
        kept |= 1 << shelf;
        return state.day;
    }

    public int back(int shelf) {
        if (shelf < 0 || shelf >= SHELVES) {
            return NONE;
        }
        if ((kept >> shelf & 1) == 0) {
            return NOTHING;
        }
        river.copyOf(shelfRivers[shelf]);
        state.copyOf(shelfStates[shelf]);
        acts = 0;
        return state.day;
    }

    public int reach(int reach, int what) {
        if (!isReach(reach)) {
            return NONE;
        }
        if (what >= 10 && what < 10 + QUARTERS) {
            return river.inflow[reach * QUARTERS + what - 10];
        }
        switch (what) {
            case 0: return river.down[reach];
            case 1: return river.sink[reach];
            case 2: return river.countInto(reach);
            case 3: return river.countToMouth(reach);
            default: return NONE;
        }
    }

    public int right(int right, int what) {
        if (!isRight(right)) {
            return NONE;
        }
        boolean metered = river.volume[right] > 0;
        switch (what) {
            case 0: return state.at[right];
            case 1: return river.rate[right];
            case 2: return river.from[right];
            case 3: return river.to[right];
            case 4: return state.age[right];
            case 5: return metered ? river.volume[right] : NOTHING;
            case 6: return metered ? state.left[right] : NOTHING;
            case 7: return river.backTo[right];
            case 8: return river.backShare[right];
            case 9: return river.backDelay[right];
            case 10: return state.demand[right];
            case 11: return state.barter[right];
            case 12: return state.took[right];
            default: return NONE;
        }
    }

    public int store(int store, int what) {
        if (!isStore(store)) {
            return NONE;
        }
        switch (what) {
            case 0: return river.storeAt[store];
            case 1: return river.size[store];
            case 2: return river.storeRate[store];
            case 3: return river.storeAge[store];
            case 4: return state.content[store];
            case 5: return state.orderRight[store];
            case 6: return state.orderAmount[store];
            default: return NONE;
        }
    }

    public int flow(int reach, int what) {
        if (!isReach(reach)) {
            return NONE;
        }
        look();
        switch (what) {
            case 0: return today.inflowOf(reach);
            case 1: return today.backOf(reach);
            case 2: return today.there[reach] + today.takenAt(reach);
            case 3: return today.takenAt(reach);
            case 4: return today.out[reach];
            default: return NONE;
        }
    }

    public int takes(int right, int what) {
        if (!isRight(right)) {
            return NONE;
        }
        look();
        switch (what) {
            case 0: return today.takenBy(right);
            case 1: return today.byAge[right];
            case 2: return today.byOrder[right];
            case 3: return today.byBarter[right];
            case 4: return today.wants[right];
            default: return NONE;
        }
    }

    public int stored(int store, int what) {
        if (!isStore(store)) {
            return NONE;
        }
        look();
        switch (what) {
            case 0: return today.filledInto(store);
            case 1: return today.letByOrder[store];
            case 2: return today.letByBarter[store];
            case 3: return today.contentBehind(store);
            default: return NONE;
        }
    }

    public int shut(int right) {
        if (!isRight(right)) {
            return NONE;
        }
        look();
        int takes = today.byAge[right];
        return today.mostAlone(right) - takes;
    }

    public int caller(int right) {
        if (!isRight(right)) {
            return NONE;
        }
        look();
        int takes = today.byAge[right];
        for (int k = 0; k < today.queued; k++) {
            int older = today.queue[k];
            if (older == right) {
                break;
            }
            today.bringWater();
            today.takeByAge(older);
            if (today.byAge[right] > takes) {
                return nameOf(older);
            }
        }
        return NOTHING;
    }

    public int calls(int what) {
        if (what < 0 || what > 1) {
            return NONE;
        }
        look();
        int bits = 0;
        for (int right = 0; right < river.rights; right++) {
            boolean counts = what == 0 ? today.isShort(right) : isFutileOnSome(right);
            if (counts) {
                bits |= 1 << right;
            }
        }
        return bits;
    }

    public int futile(int right, int other) {
        if (!areTwoRights(right, other)) {
            return NONE;
        }
        look();
        return isFutileOn(right, other) ? 1 : 0;
    }

    private boolean isFutileOnSome(int right) {
        for (int other = 0; other < river.rights; other++) {
            if (other != right && isFutileOn(right, other)) {
                return true;
            }
        }
        return false;
    }

    private boolean isFutileOn(int right, int other) {
        return today.isShort(right)
            && state.age[other] > state.age[right]
            && today.byAge[other] > 0
            && river.runsTo(state.at[other], state.at[right]);
    }

    public int needs(int right) {
        if (!isRight(right)) {
            return NONE;
        }
        outlook.begin(river, state);
        for (int percent = 0; percent <= MAX_WET; percent++) {
            outlook.state.wet = percent;
            if (!outlook.isShortNow(right)) {
                return percent;
            }
        }
        return NOTHING;
    }

    public int firm(int right, int n, int what) {
        if (!isRight(right) || !isSpan(n) || what < 0 || what > 2) {
            return NONE;
        }
        outlook.begin(river, state);
        outlook.run(n, right);
        switch (what) {
            case 0: return outlook.tookOf(right);
            case 1: return outlook.least;
            default: return outlook.shortDays;
        }
    }

    public int without(int right, int other, int n) {
        if (!areTwoRights(right, other) || !isSpan(n)) {
            return NO_INT;
        }
        outlook.begin(river, state);
        outlook.run(n, right);
        int with = outlook.tookOf(right);
        outlook.begin(river, state);
        outlook.state.demand[other] = 0;
        outlook.run(n, right);
        return outlook.tookOf(right) - with;
    }

    public int hurt(int right, int reach, int other) {
        if (!areTwoRights(right, other) || !isReach(reach)) {
            return NONE;
        }
        lookAhead();
        outlook.beginMoved(river, state, right, reach);
        outlook.run(YEAR, NONE);
        return Math.max(0, unchanged[other] - outlook.tookOf(other));
    }

    public int movable(int right) {
        if (!isRight(right)) {
            return NONE;
        }
        lookAhead();
        int bits = 0;
        for (int reach = 0; reach < river.reaches; reach++) {
            if (reach != state.at[right] && !hurtsSomebody(right, reach)) {
                bits |= 1 << reach;
            }
        }
        return bits;
    }

    /** What each RIGHT takes in the next YEAR if none moves. */
    private void lookAhead() {
        outlook.begin(river, state);
        outlook.run(YEAR, NONE);
        for (int right = 0; right < river.rights; right++) {
            unchanged[right] = outlook.tookOf(right);
        }
    }

    /** Only behind lookAhead(). */
    private boolean hurtsSomebody(int right, int reach) {
        outlook.beginMoved(river, state, right, reach);
        outlook.run(YEAR, NONE);
        for (int other = 0; other < river.rights; other++) {
            if (other != right && outlook.tookOf(other) < unchanged[other]) {
                return true;
            }
        }
        return false;
    }

    public int aged(int k) {
        if (k < NONE) {
            return NONE;
        }
        today.open(river, state);
        if (k == NONE) {
            return today.queued;
        }
        return k < today.queued ? nameOf(today.queue[k]) : NOTHING;
    }

    private static int nameOf(int taker) {
        return taker < FIRST_STORE ? taker : STORE + taker - FIRST_STORE;
    }

    public int runs(int n, int what) {
        if (!isSpan(n) || what < 0 || what > 3) {
            return NONE;
        }
        outlook.begin(river, state);
        outlook.run(n, NONE);
        switch (what) {
            case 0: return outlook.sumOf(MOUTH);
            case 1: return outlook.sumOf(SINKS);
            case 2: return outlook.sumOf(TAKEN);
            default: return outlook.callDays;
        }
    }

    public long gone(int what) {
        switch (what) {
            case 0: return state.sums[INFLOWS];
            case 1: return state.sums[MOUTH];
            case 2: return state.sums[SINKS];
            case 3: return state.sums[TAKEN];
            case 4: return state.sums[RUN_BACK];
            case 5: return state.inStores(river);
            case 6: return state.onItsWay();
            case 7: return state.sums[DAYS];
            default: return NO_LONG;
        }
    }

    public int coming(int reach, int days) {
        if (!isReach(reach) || days < 0 || days >= MAX_DELAY) {
            return NONE;
        }
        return state.onWay[state.wayRow(days) + reach];
    }

    public int above(int reach) {
        if (!isReach(reach)) {
            return NONE;
        }
        int bits = 0;
        for (int r = 0; r < river.reaches; r++) {
            if (river.runsTo(r, reach)) {
                bits |= 1 << r;
            }
        }
        return bits;
    }

    public int thirst(int reach) {
        if (!isReach(reach)) {
            return NONE;
        }
        look();
        int dry = 0;
        int r = reach;
        for (int i = 0; i < MAX_REACHES && r >= 0; i++) {
            dry += Math.max(0, river.sink[r] - today.there[r]);
            r = river.down[r];
        }
        return Math.min(dry, MAX_AMOUNT);
    }

    public int letter(int k) {
        if (k < NONE) {
            return NONE;
        }
        writer.write(river, state, k);
        if (k == NONE) {
            return writer.written;
        }
        return k < writer.written ? writer.found : NOTHING;
    }

    public int dry(int n) {
        if (n < 1 || n > MAX_DRY) {
            return NONE;
        }
        for (int percent = 0; percent <= MAX_WET; percent++) {
            outlook.begin(river, state);
            outlook.state.wet = percent;
            if (outlook.isCalm(n)) {
                return percent;
            }
        }
        return NOTHING;
    }

    public int full(int store, int what) {
        if (!isStore(store) || what < 0 || what > 1) {
            return NONE;
        }
        outlook.begin(river, state);
        return outlook.daysUntil(store, what == 0 ? river.size[store] : 0);
    }

    public int swap(int right, int other, int n, int what) {
        if (!areTwoRights(right, other) || !isSpan(n) || what < 0 || what > 1) {
            return NO_INT;
        }
        int one = what == 0 ? right : other;
        outlook.begin(river, state);
        outlook.run(n, one);
        int before = outlook.tookOf(one);
        outlook.begin(river, state);
        outlook.state.tradeAges(right, other);
        outlook.run(n, one);
        return outlook.tookOf(one) - before;
    }

    public int spell(int right, int n, int what) {
        if (!isRight(right) || !isSpan(n) || what < 0 || what > 1) {
            return NONE;
        }
        outlook.begin(river, state);
        outlook.run(n, right);
        return what == 0 ? outlook.firstShort : outlook.longest;
    }

    public int gain(int reach, int more, int n) {
        if (!isReach(reach) || more < 0 || more > MAX_AMOUNT || !isSpan(n)) {
            return NO_INT;
        }
        outlook.begin(river, state);
        outlook.run(n, NONE);
        int before = outlook.sumOf(TAKEN);
        outlook.begin(river, state);
        outlook.comeMore(reach, more);
        outlook.run(n, NONE);
        return outlook.sumOf(TAKEN) - before;
    }

    public int share(int right, int n) {
        if (right != NONE && !isRight(right) || !isSpan(n)) {
            return NONE;
        }
        outlook.begin(river, state);
        outlook.run(n, right);
        if (right != NONE) {
            return thousandths(outlook.tookOf(right), outlook.wanted[right]);
        }
        long wanted = 0;
        for (int r = 0; r < river.rights; r++) {
            wanted += outlook.wanted[r];
        }
        return thousandths(outlook.sumOf(TAKEN), wanted);
    }

    public int worst(int n) {
        if (!isSpan(n)) {
            return NONE;
        }
        outlook.begin(river, state);
        outlook.run(n, NONE);
        int worst = NOTHING;
        int least = 0;
        for (int right = 0; right < river.rights; right++) {
            int part = thousandths(outlook.tookOf(right), outlook.wanted[right]);
            if (worst < 0 || part < least) {
                worst = right;
                least = part;
            }
        }
        return worst;
    }

    private static int thousandths(long part, long whole) {
        return whole <= 0 ? 1000 : (int) (part * 1000 / whole);
    }

    public int count(int what) {
        switch (what) {
            case 0: return river.reaches;
            case 1: return river.rights;
            case 2: return river.stores;
            case 3: return state.day;
            case 4: return state.wet;
            case 5: return acts;
            case 6: return taped;
            case 7: return kept;
            case 8: return countTold(state.orderRight, river.stores);
            case 9: return countTold(state.barter, river.rights);
            default: return NONE;
        }
    }

    private static int countTold(int[] row, int length) {
        int told = 0;
        for (int i = 0; i < length && i < row.length; i++) {
            if (row[i] >= 0) {
                told++;
            }
        }
        return told;
    }

    private void look() {
        today.open(river, state);
        today.work();
    }

    private boolean isReach(int reach) {
        return reach >= 0 && reach < river.reaches;
    }

    private boolean isRight(int right) {
        return right >= 0 && right < river.rights;
    }

    private boolean isStore(int store) {
        return store >= 0 && store < river.stores;
    }

    private boolean areTwoRights(int right, int other) {
        return isRight(right) && isRight(other) && right != other;
    }

    private static boolean isSpan(int n) {
        return n >= 1 && n <= YEAR;
    }

    /** A RIVER as it was told; what ACTS can change stands in State. */
    private static final class River {
        int reaches;
        final int[] down = new int[MAX_REACHES];
        final int[] sink = new int[MAX_REACHES];
        final int[] inflow = new int[MAX_REACHES * QUARTERS];
        int rights;
        final int[] rightAt = new int[MAX_RIGHTS];
        final int[] rate = new int[MAX_RIGHTS];
        final int[] from = new int[MAX_RIGHTS];
        final int[] to = new int[MAX_RIGHTS];
        final int[] rightAge = new int[MAX_RIGHTS];
        final int[] volume = new int[MAX_RIGHTS];
        final int[] backTo = new int[MAX_RIGHTS];
        final int[] backShare = new int[MAX_RIGHTS];
        final int[] backDelay = new int[MAX_RIGHTS];
        int stores;
        final int[] storeAt = new int[MAX_STORES];
        final int[] size = new int[MAX_STORES];
        final int[] storeRate = new int[MAX_STORES];
        final int[] storeAge = new int[MAX_STORES];
        int wet = USUAL_WET;

        void clear() {
            reaches = 0;
            rights = 0;
            stores = 0;
            wet = USUAL_WET;
        }

        void copyOf(River other) {
            reaches = other.reaches;
            rights = other.rights;
            stores = other.stores;
            wet = other.wet;
            copyRow(other.down, down);
            copyRow(other.sink, sink);
            copyRow(other.inflow, inflow);
            copyRow(other.rightAt, rightAt);
            copyRow(other.rate, rate);
            copyRow(other.from, from);
            copyRow(other.to, to);
            copyRow(other.rightAge, rightAge);
            copyRow(other.volume, volume);
            copyRow(other.backTo, backTo);
            copyRow(other.backShare, backShare);
            copyRow(other.backDelay, backDelay);
            copyRow(other.storeAt, storeAt);
            copyRow(other.size, size);
            copyRow(other.storeRate, storeRate);
            copyRow(other.storeAge, storeAge);
        }

        boolean hasAge(int age) {
            for (int i = 0; i < rights; i++) {
                if (rightAge[i] == age) {
                    return true;
                }
            }
            for (int i = 0; i < stores; i++) {
                if (storeAge[i] == age) {
                    return true;
                }
            }
            return false;
        }

        boolean runsTo(int reach, int goal) {
            int r = reach;
            for (int i = 0; i < MAX_REACHES && r >= 0; i++) {
                if (r == goal) {
                    return true;
                }
                r = down[r];
            }
            return false;
        }

        int countToMouth(int reach) {
            int r = reach;
            int passed = 0;
            for (int i = 0; i < MAX_REACHES && r >= 0; i++) {
                passed++;
                r = down[r];
            }
            return passed;
        }

        int countInto(int reach) {
            int many = 0;
            for (int r = 0; r < reaches; r++) {
                if (down[r] == reach) {
                    many++;
                }
            }
            return many;
        }
    }

    private static void copyRow(int[] source, int[] target) {
        System.arraycopy(source, 0, target, 0, Math.min(source.length, target.length));
    }

    /** All that ACTS change: what an UNDO and a SHELF bring back. */
    private static final class State {
        int day;
        int wet = USUAL_WET;
        final int[] at = new int[MAX_RIGHTS];
        final int[] age = new int[MAX_RIGHTS];
        final int[] demand = new int[MAX_RIGHTS];
        final int[] left = new int[MAX_RIGHTS];
        final int[] barter = new int[MAX_RIGHTS];
        final int[] took = new int[MAX_RIGHTS];
        final int[] content = new int[MAX_STORES];
        final int[] orderRight = new int[MAX_STORES];
        final int[] orderAmount = new int[MAX_STORES];
        /** A row of REACHES for each DAY that comes, the DAY's number modulo MAX_DELAY telling which. */
        final int[] onWay = new int[MAX_DELAY * MAX_REACHES];
        final long[] sums = new long[SUMS];

        void startAs(River river) {
            day = 0;
            wet = river.wet;
            copyRow(river.rightAt, at);
            copyRow(river.rightAge, age);
            copyRow(river.rate, demand);
            copyRow(river.volume, left);
            for (int i = 0; i < MAX_RIGHTS; i++) {
                barter[i] = NOTHING;
                took[i] = 0;
            }
            for (int i = 0; i < MAX_STORES; i++) {
                content[i] = 0;
                orderRight[i] = NOTHING;
                orderAmount[i] = 0;
            }
            for (int i = 0; i < MAX_DELAY * MAX_REACHES; i++) {
                onWay[i] = 0;
            }
            for (int i = 0; i < SUMS; i++) {
                sums[i] = 0;
            }
        }

        void copyOf(State other) {
            day = other.day;
            wet = other.wet;
            copyRow(other.at, at);
            copyRow(other.age, age);
            copyRow(other.demand, demand);
            copyRow(other.left, left);
            copyRow(other.barter, barter);
            copyRow(other.took, took);
            copyRow(other.content, content);
            copyRow(other.orderRight, orderRight);
            copyRow(other.orderAmount, orderAmount);
            copyRow(other.onWay, onWay);
            System.arraycopy(other.sums, 0, sums, 0, SUMS);
        }

        void tradeAges(int right, int other) {
            int mine = age[right];
            age[right] = age[other];
            age[other] = mine;
        }

        int wayRow(int days) {
            return (day + days) % MAX_DELAY * MAX_REACHES;
        }

        long inStores(River river) {
            long sum = 0;
            for (int i = 0; i < river.stores; i++) {
                sum += content[i];
            }
            return sum;
        }

        long onItsWay() {
            long sum = 0;
            for (int i = 0; i < MAX_DELAY * MAX_REACHES; i++) {
                sum += onWay[i];
            }
            return sum;
        }
    }

    /**
     * One DAY of a State: who takes what, by (1), (2) and (3).
     * TAKERS are told by one number here: RIGHTS by theirs, STORES from FIRST_STORE on.
     */
    private static final class Day {
        River river;
        State state;
        /** TAKERS, the oldest first. */
        final int[] queue = new int[MAX_TAKERS];
        int queued;
        /** The REACH of a TAKER. */
        final int[] place = new int[MAX_TAKERS];
        /** What has come to a REACH and is not taken. */
        final int[] there = new int[MAX_REACHES];
        /** What runs out of a REACH. */
        final int[] out = new int[MAX_REACHES];
        final int[] wants = new int[MAX_TAKERS];
        final int[] byAge = new int[MAX_TAKERS];
        final int[] byOrder = new int[MAX_RIGHTS];
        final int[] byBarter = new int[MAX_RIGHTS];
        final int[] letByOrder = new int[MAX_STORES];
        final int[] letByBarter = new int[MAX_STORES];
        int moreAt = NONE;
        int more;

        Day(River river, State state) {
            this.river = river;
            this.state = state;
        }

        /** To be called again when AGES or REACHES of RIGHTS have changed. */
        void open(River river, State state) {
            this.river = river;
            this.state = state;
            queued = 0;
            for (int i = 0; i < river.rights; i++) {
                place[i] = state.at[i];
                enqueue(i);
            }
            for (int i = 0; i < river.stores; i++) {
                place[FIRST_STORE + i] = river.storeAt[i];
                enqueue(FIRST_STORE + i);
            }
        }

        private void enqueue(int taker) {
            int k = queued;
            while (k > 0 && ageOf(queue[k - 1]) > ageOf(taker)) {
                queue[k] = queue[k - 1];
                k--;
            }
            queue[k] = taker;
            queued++;
        }

        private int ageOf(int taker) {
            return taker < FIRST_STORE ? state.age[taker] : river.storeAge[taker - FIRST_STORE];
        }

        void work() {
            bringWater();
            takeByAge(NONE);
            takeByOrders();
            takeByBarters();
        }

        /** Nobody takes anything yet. */
        void bringWater() {
            for (int i = 0; i < river.rights; i++) {
                wants[i] = wantOfRight(i);
            }
            for (int i = 0; i < river.stores; i++) {
                wants[FIRST_STORE + i] = Math.min(river.storeRate[i], river.size[i] - state.content[i]);
            }
            for (int r = 0; r < river.reaches; r++) {
                there[r] = inflowOf(r) + backOf(r);
                if (r == moreAt) {
                    there[r] += more;
                }
            }
            // A REACH runs DOWN to one told ahead, so all above it come first here.
            for (int r = river.reaches - 1; r >= 0; r--) {
                out[r] = Math.max(0, there[r] - river.sink[r]);
                int next = river.down[r];
                if (next >= 0) {
                    there[next] += out[r];
                }
            }
        }

        private int wantOfRight(int right) {
            if (state.day < river.from[right] || state.day > river.to[right]) {
                return 0;
            }
            int want = state.demand[right];
            return river.volume[right] > 0 ? Math.min(want, state.left[right]) : want;
        }

        int inflowOf(int reach) {
            int quarter = state.day / QUARTER;
            return river.inflow[reach * QUARTERS + quarter] * state.wet / 100;
        }

        int backOf(int reach) {
            return state.onWay[state.wayRow(0) + reach];
        }

        /** (1), behind bringWater(), as if one TAKER (NONE: nobody) were not there. */
        void takeByAge(int absent) {
            for (int k = 0; k < queued; k++) {
                int taker = queue[k];
                byAge[taker] = taker == absent ? 0 : takeMost(place[taker], wants[taker], NONE);
            }
        }

        /** What a RIGHT would take in (1) if nobody else were there. */
        int mostAlone(int right) {
            bringWater();
            return takeMost(place[right], wants[right], NONE);
        }

        private void takeByOrders() {
            for (int i = 0; i < river.rights; i++) {
                byOrder[i] = 0;
                byBarter[i] = 0;
            }
            for (int store = 0; store < river.stores; store++) {
                int right = state.orderRight[store];
                letByOrder[store] = 0;
                if (right >= 0 && river.runsTo(river.storeAt[store], place[right])) {
                    int let = Math.min(state.orderAmount[store], state.content[store]);
                    letByOrder[store] = let;
                    change(river.storeAt[store], let);
                    byOrder[right] += takeMost(place[right], Math.min(let, missing(right)), NONE);
                }
            }
        }

        private void takeByBarters() {
            for (int i = 0; i < river.stores; i++) {
                letByBarter[i] = 0;
            }
            for (int right = 0; right < river.rights; right++) {
                int store = state.barter[right];
                if (store >= 0 && river.runsTo(place[right], river.storeAt[store])) {
                    int rest = state.content[store] - letByOrder[store] - letByBarter[store];
                    int below = river.storeAt[store];
                    int takes = takeMost(place[right], Math.min(rest, missing(right)), below);
                    // The STORE makes good to those below what is taken above.
                    change(below, takes);
                    letByBarter[store] += takes;
                    byBarter[right] = takes;
                }
            }
        }

        /**
         * Takes the most, up to a wish, that leaves nobody without what is taken, from a REACH down
         * to ahead of another one (NONE: to the MOUTH).
         */
        private int takeMost(int reach, int wish, int ahead) {
            int most = wish;
            int lack = wish;
            int r = reach;
            for (int i = 0; i < MAX_REACHES && r >= 0 && r != ahead && lack > 0; i++) {
                if (lack > there[r]) {
                    most = there[r];
                    lack = most;
                }
                // What a SINK would swallow is lacking to nobody below.
                if (lack > out[r]) {
                    lack = out[r];
                }
                r = river.down[r];
            }
            change(reach, -most);
            return most;
        }

        private void change(int reach, int by) {
            int r = reach;
            int step = by;
            for (int i = 0; i < MAX_REACHES && r >= 0 && step != 0; i++) {
                int before = out[r];
                there[r] += step;
                int spare = there[r] - river.sink[r];
                out[r] = spare > 0 ? spare : 0;
                step = out[r] - before;
                r = river.down[r];
            }
        }

        int takenBy(int right) {
            return byAge[right] + byOrder[right] + byBarter[right];
        }

        private int missing(int right) {
            return wants[right] - takenBy(right);
        }

        boolean isShort(int right) {
            return missing(right) > 0;
        }

        boolean someCalls() {
            for (int i = 0; i < river.rights; i++) {
                if (isShort(i)) {
                    return true;
                }
            }
            return false;
        }

        int takenAt(int reach) {
            int sum = 0;
            for (int k = 0; k < queued; k++) {
                int taker = queue[k];
                if (place[taker] == reach) {
                    sum += taker < FIRST_STORE ? takenBy(taker) : byAge[taker];
                }
            }
            return sum;
        }

        int filledInto(int store) {
            return byAge[FIRST_STORE + store];
        }

        int contentBehind(int store) {
            return state.content[store] + filledInto(store) - letByOrder[store] - letByBarter[store];
        }

        /** The DAY that work() has found goes by. */
        void pass() {
            passReaches();
            for (int i = 0; i < river.rights; i++) {
                passRight(i);
            }
            for (int i = 0; i < river.stores; i++) {
                state.content[i] = contentBehind(i);
            }
            state.sums[DAYS]++;
            state.day++;
            if (state.day >= YEAR) {
                state.day = 0;
                copyRow(river.volume, state.left);
            }
        }

        private void passReaches() {
            int row = state.wayRow(0);
            for (int r = 0; r < river.reaches; r++) {
                state.sums[INFLOWS] += inflowOf(r);
                state.sums[RUN_BACK] += state.onWay[row + r];
                state.sums[SINKS] += there[r] - out[r];
                if (river.down[r] < 0) {
                    state.sums[MOUTH] += out[r];
                }
                // The row is free now for what comes in MAX_DELAY DAYS.
                state.onWay[row + r] = 0;
            }
        }

        private void passRight(int right) {
            int takes = takenBy(right);
            if (river.volume[right] > 0) {
                state.left[right] -= takes;
            }
            state.took[right] += takes;
            state.sums[TAKEN] += takes;
            int target = river.backTo[right];
            if (target >= 0) {
                int row = state.wayRow(river.backDelay[right]);
                state.onWay[row + target] += takes * river.backShare[right] / 100;
            }
        }
    }

    /** The DAYS that come, on a copy of a State. */
    private static final class Outlook {
        final State state = new State();
        private final Day day;
        private River river;
        private State start;
        final int[] wanted = new int[MAX_RIGHTS];
        int callDays;
        int least;
        int shortDays;
        int firstShort;
        int longest;
        private int spell;

        Outlook(River river, State start) {
            this.river = river;
            this.start = start;
            day = new Day(river, state);
        }

        /** The copy may be changed between this and what looks at its DAYS. */
        void begin(River river, State start) {
            this.river = river;
            this.start = start;
            state.copyOf(start);
            comeMore(NONE, 0);
        }

        void beginMoved(River river, State start, int right, int reach) {
            begin(river, start);
            state.at[right] = reach;
        }

        void comeMore(int reach, int more) {
            day.moreAt = reach;
            day.more = more;
        }

        /** n DAYS go by, one RIGHT (NONE: none) being watched. */
        void run(int n, int watched) {
            day.open(river, state);
            forget();
            for (int i = 0; i < n; i++) {
                day.work();
                for (int right = 0; right < river.rights; right++) {
                    wanted[right] += day.wants[right];
                }
                if (day.someCalls()) {
                    callDays++;
                }
                if (watched >= 0 && watched < river.rights) {
                    watch(watched, i);
                }
                day.pass();
            }
        }

        private void forget() {
            for (int i = 0; i < MAX_RIGHTS; i++) {
                wanted[i] = 0;
            }
            callDays = 0;
            least = MAX_AMOUNT;
            shortDays = 0;
            firstShort = NOTHING;
            longest = 0;
            spell = 0;
        }

        private void watch(int right, int ahead) {
            least = Math.min(least, day.takenBy(right));
            if (!day.isShort(right)) {
                spell = 0;
                return;
            }
            shortDays++;
            spell++;
            longest = Math.max(longest, spell);
            if (firstShort < 0) {
                firstShort = ahead;
            }
        }

        int tookOf(int right) {
            return state.took[right] - start.took[right];
        }

        int sumOf(int what) {
            return (int) (state.sums[what] - start.sums[what]);
        }

        boolean isShortNow(int right) {
            day.open(river, state);
            day.work();
            return day.isShort(right);
        }

        /** Whether no RIGHT CALLS in n DAYS. */
        boolean isCalm(int n) {
            day.open(river, state);
            for (int i = 0; i < n; i++) {
                day.work();
                if (day.someCalls()) {
                    return false;
                }
                day.pass();
            }
            return true;
        }

        int daysUntil(int store, int content) {
            day.open(river, state);
            for (int i = 0; i <= YEAR; i++) {
                if (state.content[store] == content) {
                    return i;
                }
                day.work();
                day.pass();
            }
            return NOTHING;
        }
    }

    /** Reads a RIVER from a TEXT, up to its first FAULT. */
    private static final class RiverReader {
        private static final int CANNOT_STAND = 1;
        private static final int NOT_AS_TOLD = 2;
        private static final int TOO_MANY = 3;

        private final byte[] text;
        private int length;
        private int place;
        private int fault;
        private boolean wetTold;
        private River river;

        RiverReader(byte[] text, River river) {
            this.text = text;
            this.river = river;
        }

        /** The FAULT; 0 without one. */
        int readRiver(River target, int bytes) {
            river = target;
            river.clear();
            length = Math.min(bytes, text.length);
            place = 0;
            fault = 0;
            wetTold = false;
            skipBlanks();
            boolean goesOn = place < length;
            for (int i = 0; i <= MAX_TAPE && goesOn; i++) {
                readPart();
                goesOn = readBetween();
            }
            return fault;
        }

        /** Whether there has to be one more PART. */
        private boolean readBetween() {
            skipBlanks();
            if (fault != 0 || place >= length) {
                return false;
            }
            if (text[place] != ';') {
                blame(place, CANNOT_STAND);
                return false;
            }
            place++;
            return true;
        }

        private void readPart() {
            skipBlanks();
            int start = place;
            if (isNext("reach")) {
                readReach(start);
            } else if (isNext("right")) {
                readRight(start);
            } else if (isNext("store")) {
                readStore(start);
            } else if (isNext("wet")) {
                readWet(start);
            } else {
                blame(start, CANNOT_STAND);
            }
        }

        private void readReach(int start) {
            int r = river.reaches;
            if (r >= MAX_REACHES) {
                blame(start, TOO_MANY);
                return;
            }
            river.down[r] = isNext("mouth") ? NOTHING : readReachNumber();
            for (int quarter = 0; quarter < QUARTERS; quarter++) {
                river.inflow[r * QUARTERS + quarter] = readNumber(0, MAX_AMOUNT);
            }
            river.sink[r] = isNext("sink") ? readNumber(0, MAX_AMOUNT) : 0;
            river.reaches++;
        }

        private void readRight(int start) {
            int r = river.rights;
            if (r >= MAX_RIGHTS) {
                blame(start, TOO_MANY);
                return;
            }
            river.rightAt[r] = readReachNumber();
            river.rate[r] = readNumber(1, MAX_AMOUNT);
            river.from[r] = readNumber(0, YEAR - 1);
            river.to[r] = readNumber(river.from[r], YEAR - 1);
            river.rightAge[r] = readAge();
            river.volume[r] = isNext("vol") ? readNumber(1, MAX_VOLUME) : 0;
            boolean runsBack = isNext("back");
            river.backTo[r] = runsBack ? readReachNumber() : NOTHING;
            river.backShare[r] = runsBack ? readNumber(0, 100) : 0;
            river.backDelay[r] = runsBack ? readNumber(1, MAX_DELAY) : 0;
            river.rights++;
        }

        private void readStore(int start) {
            int s = river.stores;
            if (s >= MAX_STORES) {
                blame(start, TOO_MANY);
                return;
            }
            river.storeAt[s] = readReachNumber();
            river.size[s] = readNumber(1, MAX_VOLUME);
            river.storeRate[s] = readNumber(1, MAX_AMOUNT);
            river.storeAge[s] = readAge();
            river.stores++;
        }

        private void readWet(int start) {
            if (wetTold) {
                blame(start, TOO_MANY);
                return;
            }
            wetTold = true;
            river.wet = readNumber(0, MAX_WET);
        }

        private int readReachNumber() {
            return readNumber(0, river.reaches - 1);
        }

        private int readAge() {
            if (!isNext("age")) {
                blame(place, CANNOT_STAND);
            }
            skipBlanks();
            int start = place;
            int age = readNumber(0, MAX_AMOUNT);
            if (river.hasAge(age)) {
                blame(start, NOT_AS_TOLD);
            }
            return age;
        }

        /** A NUMBER from low to high; low if it is not there or not so. */
        private int readNumber(int low, int high) {
            skipBlanks();
            int start = place;
            int number = 0;
            while (place < length && text[place] >= '0' && text[place] <= '9') {
                // Beyond MAX_VOLUME all are alike: too high for any NUMBER.
                number = Math.min(number * 10 + text[place] - '0', MAX_VOLUME + 1);
                place++;
            }
            if (place == start) {
                blame(start, CANNOT_STAND);
                return low;
            }
            if (number < low || number > high) {
                blame(start, NOT_AS_TOLD);
                return low;
            }
            return number;
        }

        /** Whether this WORD stands here; if so, it is passed. */
        private boolean isNext(String word) {
            skipBlanks();
            int behind = place + word.length();
            if (fault != 0 || behind > length) {
                return false;
            }
            for (int i = 0; i < word.length(); i++) {
                if (text[place + i] != word.charAt(i)) {
                    return false;
                }
            }
            if (behind < length && text[behind] >= 'a' && text[behind] <= 'z') {
                return false;
            }
            place = behind;
            return true;
        }

        private void skipBlanks() {
            while (place < length && text[place] == ' ') {
                place++;
            }
        }

        /** The first one counts: the places are looked at in their order. */
        private void blame(int where, int code) {
            if (fault == 0) {
                fault = 8 * where + code;
            }
        }
    }

    /** Writes a RIVER as a TEXT, of which it counts the bytes and keeps one. */
    private static final class RiverWriter {
        private River river;
        private State state;
        private int sought;
        int written;
        int found;

        RiverWriter(River river, State state) {
            this.river = river;
            this.state = state;
        }

        void write(River river, State state, int sought) {
            this.river = river;
            this.state = state;
            this.sought = sought;
            written = 0;
            found = NOTHING;
            for (int i = 0; i < river.reaches; i++) {
                writeReach(i);
            }
            for (int i = 0; i < river.rights; i++) {
                writeRight(i);
            }
            for (int i = 0; i < river.stores; i++) {
                writeStore(i);
            }
            if (state.wet != USUAL_WET) {
                beginPart("wet");
                putNextNumber(state.wet);
            }
        }

        private void writeReach(int r) {
            beginPart("reach");
            if (river.down[r] < 0) {
                putNextWord("mouth");
            } else {
                putNextNumber(river.down[r]);
            }
            for (int quarter = 0; quarter < QUARTERS; quarter++) {
                putNextNumber(river.inflow[r * QUARTERS + quarter]);
            }
            if (river.sink[r] != 0) {
                putNextWord("sink");
                putNextNumber(river.sink[r]);
            }
        }

        private void writeRight(int r) {
            beginPart("right");
            putNextNumber(state.at[r]);
            putNextNumber(river.rate[r]);
            putNextNumber(river.from[r]);
            putNextNumber(river.to[r]);
            putNextWord("age");
            putNextNumber(state.age[r]);
            if (river.volume[r] > 0) {
                putNextWord("vol");
                putNextNumber(river.volume[r]);
            }
            if (river.backTo[r] >= 0) {
                putNextWord("back");
                putNextNumber(river.backTo[r]);
                putNextNumber(river.backShare[r]);
                putNextNumber(river.backDelay[r]);
            }
        }

        private void writeStore(int s) {
            beginPart("store");
            putNextNumber(river.storeAt[s]);
            putNextNumber(river.size[s]);
            putNextNumber(river.storeRate[s]);
            putNextWord("age");
            putNextNumber(river.storeAge[s]);
        }

        private void beginPart(String word) {
            if (written > 0) {
                put(';');
            }
            putWord(word);
        }

        private void putNextWord(String word) {
            put(' ');
            putWord(word);
        }

        private void putWord(String word) {
            for (int i = 0; i < word.length(); i++) {
                put(word.charAt(i));
            }
        }

        private void putNextNumber(int number) {
            put(' ');
            boolean begun = false;
            for (int unit = 100000; unit > 0; unit /= 10) {
                int digit = number / unit % 10;
                begun = begun || digit > 0 || unit == 1;
                if (begun) {
                    put((char) ('0' + digit));
                }
            }
        }

        private void put(char sign) {
            if (written == sought) {
                found = sign;
            }
            written++;
        }
    }
}
