import java.util.ArrayList;
import java.util.Collections;
import java.util.List;
import java.util.Random;

/** Runs of calls, the same in each run of this test, on RiverCall and on its plain Twin. */
public final class TwinTest {
    private static final Due DUE = new Due();

    private final Random random;
    private final Twin twin = new Twin();
    private final RiverCall x = new RiverCall();
    private final String name;
    /** Whether the river's NUMBERS go as far as they may. */
    private boolean great;

    private TwinTest(long seed) {
        random = new Random(seed);
        name = "run " + seed + ": ";
    }

    public static void main(String[] args) {
        int runs = args.length > 0 ? Integer.parseInt(args[0]) : 60;
        for (int seed = 1; seed <= runs; seed++) {
            new TwinTest(seed).run();
        }
        DUE.end();
    }

    private int upTo(int most) {
        return random.nextInt(most + 1);
    }

    private int from(int low, int high) {
        return low + random.nextInt(high - low + 1);
    }

    private boolean oneIn(int n) {
        return random.nextInt(n) == 0;
    }

    /** Up to a small number, or in a great river up to a great one, which comes often itself. */
    private int size(int low, int small, int highest) {
        if (!great) {
            return from(low, small);
        }
        return oneIn(4) ? highest : from(low, highest);
    }

    private void run() {
        tellRiver();
        for (int k = 0; k < 120; k++) {
            call();
            if (oneIn(60)) {
                tellRiver();
            }
        }
    }

    private void tellRiver() {
        twin.w = new Twin.World();
        twin.past.clear();
        List<Integer> ages = new ArrayList<>();
        for (int i = 0; i < 40; i++) {
            ages.add(i);
        }
        Collections.shuffle(ages, random);
        boolean crowded = oneIn(3);
        great = oneIn(4);
        int reaches = crowded ? from(4, 9) : from(1, 6);
        for (int i = 0; i < reaches; i++) {
            addReach(i);
        }
        int rights = crowded ? from(3, 8) : upTo(5);
        for (int i = 0; i < rights; i++) {
            addRight(ages.get(i));
        }
        int stores = crowded ? upTo(4) : upTo(2);
        for (int i = 0; i < stores; i++) {
            addStore(ages.get(20 + i));
        }
        if (oneIn(3)) {
            twin.w.wet = upTo(400);
        }
        String text = twin.text();
        if (text.length() > 400) {
            tellRiver();
            return;
        }
        DUE.is(name + "tell " + text, Due.tell(x, text), rights);
    }

    private void addReach(int i) {
        Twin.Reach r = new Twin.Reach();
        r.down = i == 0 || oneIn(6) ? -2 : upTo(i - 1);
        r.sink = oneIn(2) ? size(0, 20, oneIn(3) ? 9999 : 3000) : 0;
        for (int q = 0; q < 4; q++) {
            r.inflow[q] = oneIn(3) ? 0 : size(0, 25, 9999);
        }
        twin.w.reaches.add(r);
    }

    private void addRight(int age) {
        Twin.Right r = new Twin.Right();
        r.at = upTo(twin.w.reaches.size() - 1);
        r.rate = size(1, 25, 9999);
        r.from = oneIn(2) ? 0 : upTo(100);
        r.to = oneIn(2) ? 359 : from(r.from, 359);
        r.age = age;
        r.demand = r.rate;
        if (oneIn(3)) {
            r.volume = size(1, 400, 999999);
            r.left = r.volume;
        }
        if (oneIn(2)) {
            r.backTo = upTo(twin.w.reaches.size() - 1);
            r.hundredths = upTo(100);
            r.delay = oneIn(3) ? 30 : from(1, 30);
        }
        twin.w.rights.add(r);
    }

    private void addStore(int age) {
        Twin.Store s = new Twin.Store();
        s.at = upTo(twin.w.reaches.size() - 1);
        s.size = size(1, 200, 999999);
        s.rate = size(1, 20, 9999);
        s.age = age;
        twin.w.stores.add(s);
    }

    private int anyReach() {
        return from(oneIn(10) ? -1 : 0, twin.w.reaches.size() - (oneIn(10) ? 0 : 1));
    }

    private int anyRight() {
        return from(oneIn(10) ? -1 : 0, Math.max(0, twin.w.rights.size() - (oneIn(10) ? 0 : 1)));
    }

    private int anyStore() {
        return from(oneIn(10) ? -1 : 0, Math.max(0, twin.w.stores.size() - (oneIn(10) ? 0 : 1)));
    }

    private int anyWhat(int most) {
        return oneIn(20) ? from(-2, most + 2) : upTo(most);
    }

    private int anySpan(int most) {
        return oneIn(20) ? (oneIn(2) ? upTo(1) - 1 : 361) : oneIn(6) ? from(1, most) : from(1, 20);
    }

    private void call() {
        int kind = random.nextInt(100);
        if (kind < 35) {
            act();
        } else if (kind < 70) {
            look();
        } else if (kind < 85) {
            ask();
        } else {
            lookAhead();
        }
    }

    private void act() {
        int i = anyRight();
        int j = anyRight();
        int s = anyStore();
        int r = anyReach();
        int v = oneIn(10) ? from(-1, great ? 10000 : 400) : size(0, 30, 9999);
        switch (random.nextInt(14)) {
            case 0: case 1: case 2:
                int n = oneIn(10) ? from(0, 61) : from(1, 12);
                DUE.is(name + "days " + n, x.days(n), twin.days(n));
                break;
            case 3:
                int wet = oneIn(4) ? from(-1, 401) : from(50, 200);
                DUE.is(name + "wet " + wet, x.wet(wet), twin.wet(wet));
                break;
            case 4:
                DUE.is(name + "demand " + i + " " + v, x.demand(i, v), twin.demand(i, v));
                break;
            case 5: case 6:
                int amount = oneIn(3) ? 0 : v;
                DUE.is(name + "order " + s + " " + i + " " + amount, x.order(s, i, amount), twin.order(s, i, amount));
                break;
            case 7: case 8:
                DUE.is(name + "barter " + i + " " + s, x.barter(i, s), twin.barter(i, s));
                break;
            case 9:
                DUE.is(name + "trade " + i + " " + j, x.trade(i, j), twin.trade(i, j));
                break;
            case 10:
                DUE.is(name + "move " + i + " " + r, x.move(i, r), twin.move(i, r));
                break;
            case 11:
                DUE.is(name + "undo", x.undo(), twin.undo());
                break;
            case 12:
                int k = from(0, 9) - 4;
                DUE.is(name + "keep " + k, x.keep(k), twin.keep(k));
                break;
            default:
                int b = oneIn(2) ? from(-1, 2) : 5;
                DUE.is(name + "back " + b, x.back(b), twin.back(b));
                break;
        }
    }

    private void look() {
        int i = anyRight();
        int j = anyRight();
        int s = anyStore();
        int r = anyReach();
        int what = anyWhat(4);
        switch (random.nextInt(10)) {
            case 0: case 1:
                DUE.is(name + "flow " + r + " " + what, x.flow(r, what), twin.flow(r, what));
                break;
            case 2: case 3:
                DUE.is(name + "takes " + i + " " + what, x.takes(i, what), twin.takes(i, what));
                break;
            case 4:
                what = anyWhat(3);
                DUE.is(name + "stored " + s + " " + what, x.stored(s, what), twin.stored(s, what));
                break;
            case 5:
                DUE.is(name + "shut " + i, x.shut(i), twin.shut(i));
                break;
            case 6:
                DUE.is(name + "caller " + i, x.caller(i), twin.caller(i));
                break;
            case 7:
                what = anyWhat(1);
                DUE.is(name + "calls " + what, x.calls(what), twin.calls(what));
                break;
            case 8:
                DUE.is(name + "futile " + i + " " + j, x.futile(i, j), twin.futile(i, j));
                break;
            default:
                DUE.is(name + "thirst " + r, x.thirst(r), twin.thirst(r));
                break;
        }
    }

    private void ask() {
        int i = anyRight();
        int s = anyStore();
        int r = anyReach();
        int what = anyWhat(12);
        switch (random.nextInt(9)) {
            case 0:
                what = oneIn(2) ? anyWhat(3) : from(9, 14);
                DUE.is(name + "reach " + r + " " + what, x.reach(r, what), twin.reach(r, what));
                break;
            case 1:
                DUE.is(name + "right " + i + " " + what, x.right(i, what), twin.right(i, what));
                break;
            case 2:
                what = anyWhat(6);
                DUE.is(name + "store " + s + " " + what, x.store(s, what), twin.store(s, what));
                break;
            case 3:
                int k = from(-2, 8);
                DUE.is(name + "aged " + k, x.aged(k), twin.aged(k));
                break;
            case 4:
                what = anyWhat(7);
                DUE.is(name + "gone " + what, x.gone(what), twin.gone(what));
                break;
            case 5:
                int days = from(-1, 30);
                DUE.is(name + "coming " + r + " " + days, x.coming(r, days), twin.coming(r, days));
                break;
            case 6:
                DUE.is(name + "above " + r, x.above(r), twin.above(r));
                break;
            case 7:
                DUE.is(name + "letter", Due.letters(x), twin.text());
                break;
            default:
                what = anyWhat(9);
                DUE.is(name + "count " + what, x.count(what), twin.count(what));
                break;
        }
    }

    private void lookAhead() {
        int i = anyRight();
        int j = anyRight();
        int r = anyReach();
        int n = anySpan(360);
        int what = anyWhat(1);
        switch (random.nextInt(14)) {
            case 0:
                DUE.is(name + "needs " + i, x.needs(i), twin.needs(i));
                break;
            case 1:
                what = anyWhat(2);
                DUE.is(name + "firm " + i + " " + n + " " + what, x.firm(i, n, what), twin.firm(i, n, what));
                break;
            case 2:
                DUE.is(name + "without " + i + " " + j + " " + n, x.without(i, j, n), twin.without(i, j, n));
                break;
            case 3:
                DUE.is(name + "hurt " + i + " " + r + " " + j, x.hurt(i, r, j), twin.hurt(i, r, j));
                break;
            case 4:
                DUE.is(name + "movable " + i, x.movable(i), twin.movable(i));
                break;
            case 5:
                what = anyWhat(3);
                DUE.is(name + "runs " + n + " " + what, x.runs(n, what), twin.runs(n, what));
                break;
            case 6:
                int few = from(0, 11);
                DUE.is(name + "dry " + few, x.dry(few), twin.dry(few));
                break;
            case 7:
                int s = anyStore();
                DUE.is(name + "full " + s + " " + what, x.full(s, what), twin.full(s, what));
                break;
            case 8:
                DUE.is(name + "swap " + i + " " + j + " " + n + " " + what, x.swap(i, j, n, what), twin.swap(i, j, n, what));
                break;
            case 9:
                DUE.is(name + "spell " + i + " " + n + " " + what, x.spell(i, n, what), twin.spell(i, n, what));
                break;
            case 10: case 11:
                int more = oneIn(10) ? (oneIn(2) ? -1 : 10000) : size(0, 30, 9999);
                DUE.is(name + "gain " + r + " " + more + " " + n, x.gain(r, more, n), twin.gain(r, more, n));
                break;
            case 12:
                DUE.is(name + "share " + i + " " + n, x.share(i, n), twin.share(i, n));
                break;
            default:
                DUE.is(name + "worst " + n, x.worst(n), twin.worst(n));
                break;
        }
    }
}
