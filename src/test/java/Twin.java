import java.util.ArrayList;
import java.util.List;

/**
 * The document once more, in its slowest and plainest form: all flows are found anew for each
 * take that is tried. It knows nothing of how RiverCall does it.
 */
final class Twin {
    static final class Reach {
        int down;
        int sink;
        int[] inflow = new int[4];
    }

    static final class Right implements Cloneable {
        int at;
        int rate;
        int from;
        int to;
        int age;
        int volume = -2;
        int left = -2;
        int backTo = -2;
        int hundredths;
        int delay;
        int demand;
        int barter = -2;
        int took;

        Right copy() {
            try {
                return (Right) clone();
            } catch (CloneNotSupportedException e) {
                throw new IllegalStateException(e);
            }
        }
    }

    static final class Store implements Cloneable {
        int at;
        int size;
        int rate;
        int age;
        int content;
        int orderRight = -2;
        int orderAmount;

        Store copy() {
            try {
                return (Store) clone();
            } catch (CloneNotSupportedException e) {
                throw new IllegalStateException(e);
            }
        }
    }

    /** Water on its way: comes on a day counted from the river's telling. */
    record Parcel(long comes, int reach, int amount) { }

    /** A river with all that is so on a day. */
    static final class World {
        List<Reach> reaches = new ArrayList<>();
        List<Right> rights = new ArrayList<>();
        List<Store> stores = new ArrayList<>();
        List<Parcel> parcels = new ArrayList<>();
        long gone;
        int wet = 100;
        long[] sums = new long[5];
        int moreAt = -1;
        int more;

        World copy() {
            World w = new World();
            w.reaches = reaches;
            for (Right r : rights) {
                w.rights.add(r.copy());
            }
            for (Store s : stores) {
                w.stores.add(s.copy());
            }
            w.parcels = new ArrayList<>(parcels);
            w.gone = gone;
            w.wet = wet;
            w.sums = sums.clone();
            return w;
        }

        int day() {
            return (int) (gone % 360);
        }

        boolean runs(int from, int to) {
            for (int r = from; r != -2; r = reaches.get(r).down) {
                if (r == to) {
                    return true;
                }
            }
            return false;
        }

        int inflow(int r) {
            return reaches.get(r).inflow[day() / 90] * wet / 100;
        }

        int backAt(int r, int ahead) {
            int sum = 0;
            for (Parcel p : parcels) {
                if (p.reach == r && p.comes == gone + ahead) {
                    sum += p.amount;
                }
            }
            return sum;
        }
    }

    /** What everybody takes on a day. */
    static final class Takes {
        private static final int PATIENCE = 60;
        final World w;
        final int[] one;
        final int[] two;
        final int[] three;
        final int[] fill;
        final int[] letTwo;
        final int[] letThree;

        Takes(World w) {
            this.w = w;
            one = new int[w.rights.size()];
            two = new int[w.rights.size()];
            three = new int[w.rights.size()];
            fill = new int[w.stores.size()];
            letTwo = new int[w.stores.size()];
            letThree = new int[w.stores.size()];
        }

        int coming(int r) {
            int sum = w.inflow(r) + w.backAt(r, 0);
            if (w.moreAt == r) {
                sum += w.more;
            }
            for (int s = 0; s < w.stores.size(); s++) {
                if (w.stores.get(s).at == r) {
                    sum += letTwo[s] + letThree[s];
                }
            }
            for (int u = 0; u < w.reaches.size(); u++) {
                if (w.reaches.get(u).down == r) {
                    sum += out(u);
                }
            }
            return sum;
        }

        int taken(int r) {
            int sum = 0;
            for (int i = 0; i < one.length; i++) {
                if (w.rights.get(i).at == r) {
                    sum += one[i] + two[i] + three[i];
                }
            }
            for (int s = 0; s < fill.length; s++) {
                if (w.stores.get(s).at == r) {
                    sum += fill[s];
                }
            }
            return sum;
        }

        int out(int r) {
            int left = coming(r) - taken(r);
            return Math.max(0, left - w.reaches.get(r).sink);
        }

        boolean canBe() {
            for (int r = 0; r < w.reaches.size(); r++) {
                if (taken(r) > coming(r)) {
                    return false;
                }
            }
            return true;
        }

        int want(int i) {
            Right r = w.rights.get(i);
            if (w.day() < r.from || w.day() > r.to) {
                return 0;
            }
            return r.volume == -2 ? r.demand : Math.min(r.demand, r.left);
        }

        int all(int i) {
            return one[i] + two[i] + three[i];
        }

        boolean isShort(int i) {
            return all(i) < want(i);
        }

        boolean somebodyShort() {
            for (int i = 0; i < one.length; i++) {
                if (isShort(i)) {
                    return true;
                }
            }
            return false;
        }

        /** The greatest x up to a limit with which row[i] + x CAN BE; it is in the row then. */
        int most(int[] row, int i, int limit, int[] alsoRow, int j) {
            int was = row[i];
            int also = alsoRow == null ? 0 : alsoRow[j];
            int x = limit > PATIENCE ? halving(row, i, limit, alsoRow, j) : limit;
            for (; x >= 0; x--) {
                row[i] = was + x;
                if (alsoRow != null) {
                    alsoRow[j] = also + x;
                }
                if (canBe()) {
                    return x;
                }
            }
            throw new IllegalStateException("not even nothing can be");
        }

        /** The same for great limits, where each x would take too long: what CAN BE still can with less. */
        private int halving(int[] row, int i, int limit, int[] alsoRow, int j) {
            int was = row[i];
            int also = alsoRow == null ? 0 : alsoRow[j];
            int can = 0;
            int cannot = limit + 1;
            while (cannot - can > 1) {
                int x = (can + cannot) / 2;
                row[i] = was + x;
                if (alsoRow != null) {
                    alsoRow[j] = also + x;
                }
                if (canBe()) {
                    can = x;
                } else {
                    cannot = x;
                }
            }
            return can;
        }

        void first(List<Integer> takers) {
            for (int t : takers) {
                if (t >= 100) {
                    Store s = w.stores.get(t - 100);
                    most(fill, t - 100, Math.min(s.rate, s.size - s.content), null, 0);
                } else {
                    most(one, t, want(t), null, 0);
                }
            }
        }

        void second() {
            for (int s = 0; s < w.stores.size(); s++) {
                Store store = w.stores.get(s);
                int i = store.orderRight;
                if (i < 0 || !w.runs(store.at, w.rights.get(i).at)) {
                    continue;
                }
                letTwo[s] = Math.min(store.orderAmount, store.content);
                most(two, i, Math.min(letTwo[s], want(i) - all(i)), null, 0);
            }
        }

        void third() {
            for (int i = 0; i < w.rights.size(); i++) {
                int s = w.rights.get(i).barter;
                if (s < 0 || !w.runs(w.rights.get(i).at, w.stores.get(s).at)) {
                    continue;
                }
                int rest = w.stores.get(s).content - letTwo[s] - letThree[s];
                most(three, i, Math.min(rest, want(i) - all(i)), letThree, s);
            }
        }

        void pass() {
            for (int r = 0; r < w.reaches.size(); r++) {
                int left = coming(r) - taken(r);
                w.sums[0] += w.inflow(r);
                w.sums[4] += w.backAt(r, 0);
                w.sums[2] += left - out(r);
                w.sums[1] += w.reaches.get(r).down == -2 ? out(r) : 0;
            }
            w.parcels.removeIf(p -> p.comes == w.gone);
            for (int i = 0; i < one.length; i++) {
                Right r = w.rights.get(i);
                r.took += all(i);
                r.left -= r.volume == -2 ? 0 : all(i);
                w.sums[3] += all(i);
                if (r.backTo != -2) {
                    w.parcels.add(new Parcel(w.gone + r.delay, r.backTo, all(i) * r.hundredths / 100));
                }
            }
            for (int s = 0; s < fill.length; s++) {
                w.stores.get(s).content += fill[s] - letTwo[s] - letThree[s];
            }
            w.gone++;
            if (w.day() == 0) {
                for (Right r : w.rights) {
                    r.left = r.volume;
                }
            }
        }
    }

    static List<Integer> byAge(World w) {
        List<Integer> takers = new ArrayList<>();
        for (int i = 0; i < w.rights.size(); i++) {
            takers.add(i);
        }
        for (int s = 0; s < w.stores.size(); s++) {
            takers.add(100 + s);
        }
        takers.sort((a, b) -> ageOf(w, a) - ageOf(w, b));
        return takers;
    }

    private static int ageOf(World w, int t) {
        return t >= 100 ? w.stores.get(t - 100).age : w.rights.get(t).age;
    }

    static Takes today(World w) {
        Takes t = new Takes(w);
        t.first(byAge(w));
        t.second();
        t.third();
        return t;
    }

    World w = new World();
    final List<World> past = new ArrayList<>();
    final World[] shelves = new World[2];

    // ACTS

    private boolean hasRight(int i) {
        return i >= 0 && i < w.rights.size();
    }

    private boolean hasReach(int i) {
        return i >= 0 && i < w.reaches.size();
    }

    private boolean hasStore(int i) {
        return i >= 0 && i < w.stores.size();
    }

    private void act() {
        past.add(w.copy());
        if (past.size() > 10) {
            past.remove(0);
        }
    }

    int days(int n) {
        if (n < 1 || n > 60) {
            return -1;
        }
        act();
        for (int i = 0; i < n; i++) {
            today(w).pass();
        }
        return w.day();
    }

    int wet(int v) {
        if (v < 0 || v > 400) {
            return -1;
        }
        if (w.wet == v) {
            return -2;
        }
        act();
        int was = w.wet;
        w.wet = v;
        return was;
    }

    int demand(int i, int v) {
        if (!hasRight(i) || v < 0 || v > w.rights.get(i).rate) {
            return -1;
        }
        int was = w.rights.get(i).demand;
        if (was == v) {
            return -2;
        }
        act();
        w.rights.get(i).demand = v;
        return was;
    }

    int order(int s, int i, int amount) {
        if (!hasStore(s) || !hasRight(i) || amount < 0 || amount > 9999) {
            return -1;
        }
        Store store = w.stores.get(s);
        if (amount == 0 ? store.orderRight == -2 : store.orderRight == i && store.orderAmount == amount) {
            return -2;
        }
        if (!w.runs(store.at, w.rights.get(i).at)) {
            return -3;
        }
        act();
        store.orderRight = amount == 0 ? -2 : i;
        store.orderAmount = amount;
        return 1;
    }

    int barter(int i, int s) {
        if (!hasRight(i) || s != -1 && !hasStore(s)) {
            return -1;
        }
        Right r = w.rights.get(i);
        if (s == -1 ? r.barter == -2 : r.barter == s) {
            return -2;
        }
        if (s != -1 && !w.runs(r.at, w.stores.get(s).at)) {
            return -3;
        }
        act();
        r.barter = s == -1 ? -2 : s;
        return 1;
    }

    int trade(int i, int j) {
        if (!hasRight(i) || !hasRight(j) || i == j) {
            return -1;
        }
        act();
        trade(w, i, j);
        return 1;
    }

    private static void trade(World w, int i, int j) {
        int age = w.rights.get(i).age;
        w.rights.get(i).age = w.rights.get(j).age;
        w.rights.get(j).age = age;
    }

    int move(int i, int r) {
        if (!hasRight(i) || !hasReach(r)) {
            return -1;
        }
        if (w.rights.get(i).at == r) {
            return -2;
        }
        if ((movable(i) >> r & 1) == 0) {
            return -3;
        }
        act();
        w.rights.get(i).at = r;
        return 1;
    }

    int undo() {
        if (past.isEmpty()) {
            return -1;
        }
        w = past.remove(past.size() - 1);
        return past.size();
    }

    int keep(int k) {
        if (k != 0 && k != 1) {
            return -1;
        }
        shelves[k] = w.copy();
        return w.day();
    }

    int back(int k) {
        if (k != 0 && k != 1) {
            return -1;
        }
        if (shelves[k] == null) {
            return -2;
        }
        w = shelves[k].copy();
        past.clear();
        return w.day();
    }

    // What is LOOKED AT

    int flow(int r, int what) {
        if (!hasReach(r) || what < 0 || what > 4) {
            return -1;
        }
        Takes t = today(w);
        int[] answers = {w.inflow(r), w.backAt(r, 0), t.coming(r), t.taken(r), t.out(r)};
        return answers[what];
    }

    int takes(int i, int what) {
        if (!hasRight(i) || what < 0 || what > 4) {
            return -1;
        }
        Takes t = today(w);
        int[] answers = {t.all(i), t.one[i], t.two[i], t.three[i], t.want(i)};
        return answers[what];
    }

    int stored(int s, int what) {
        if (!hasStore(s) || what < 0 || what > 3) {
            return -1;
        }
        Takes t = today(w);
        int behind = w.stores.get(s).content + t.fill[s] - t.letTwo[s] - t.letThree[s];
        int[] answers = {t.fill[s], t.letTwo[s], t.letThree[s], behind};
        return answers[what];
    }

    int shut(int i) {
        if (!hasRight(i)) {
            return -1;
        }
        List<Integer> left = byAge(w);
        left.removeIf(t -> ageOf(w, t) < w.rights.get(i).age);
        Takes t = new Takes(w);
        t.first(left);
        return t.one[i] - today(w).one[i];
    }

    int caller(int i) {
        if (!hasRight(i)) {
            return -1;
        }
        int now = today(w).one[i];
        for (int x : byAge(w)) {
            if (x == i) {
                continue;
            }
            List<Integer> left = byAge(w);
            left.remove(Integer.valueOf(x));
            Takes t = new Takes(w);
            t.first(left);
            if (t.one[i] > now) {
                return x;
            }
        }
        return -2;
    }

    int calls(int what) {
        if (what != 0 && what != 1) {
            return -1;
        }
        Takes t = today(w);
        int bits = 0;
        for (int i = 0; i < w.rights.size(); i++) {
            boolean yes = what == 0 && t.isShort(i);
            for (int j = 0; what == 1 && j < w.rights.size(); j++) {
                yes |= j != i && futile(i, j) == 1;
            }
            bits |= yes ? 1 << i : 0;
        }
        return bits;
    }

    int futile(int i, int j) {
        if (!hasRight(i) || !hasRight(j) || i == j) {
            return -1;
        }
        Takes t = today(w);
        Right one = w.rights.get(i);
        Right other = w.rights.get(j);
        return t.isShort(i) && other.age > one.age && t.one[j] > 0 && w.runs(other.at, one.at) ? 1 : 0;
    }

    int needs(int i) {
        if (!hasRight(i)) {
            return -1;
        }
        World c = w.copy();
        for (c.wet = 0; c.wet <= 400; c.wet++) {
            if (!today(c).isShort(i)) {
                return c.wet;
            }
        }
        return -2;
    }

    int thirst(int r) {
        if (!hasReach(r)) {
            return -1;
        }
        Takes t = today(w);
        long mouth = mouth(t);
        int most = 0;
        w.moreAt = r;
        for (int x = 0; x <= 9999; x++) {
            w.more = x;
            if (mouth(t) == mouth) {
                most = x;
            }
        }
        w.moreAt = -1;
        return most;
    }

    private static long mouth(Takes t) {
        long sum = 0;
        for (int r = 0; r < t.w.reaches.size(); r++) {
            sum += t.w.reaches.get(r).down == -2 ? t.out(r) : 0;
        }
        return sum;
    }

    // What comes in the next DAYS

    private static boolean span(int n) {
        return n >= 1 && n <= 360;
    }

    private static List<Takes> ahead(World start, int n) {
        World c = start.copy();
        c.moreAt = start.moreAt;
        c.more = start.more;
        List<Takes> all = new ArrayList<>();
        for (int k = 0; k < n; k++) {
            Takes t = today(c);
            World shot = c.copy();
            Takes same = new Takes(shot);
            System.arraycopy(t.one, 0, same.one, 0, t.one.length);
            System.arraycopy(t.two, 0, same.two, 0, t.two.length);
            System.arraycopy(t.three, 0, same.three, 0, t.three.length);
            all.add(same);
            t.pass();
        }
        return all;
    }

    private static int sum(List<Takes> days, int i) {
        int sum = 0;
        for (Takes t : days) {
            sum += t.all(i);
        }
        return sum;
    }

    private static int wanted(List<Takes> days, int i) {
        int sum = 0;
        for (Takes t : days) {
            sum += t.want(i);
        }
        return sum;
    }

    int firm(int i, int n, int what) {
        if (!hasRight(i) || !span(n) || what < 0 || what > 2) {
            return -1;
        }
        List<Takes> days = ahead(w, n);
        int least = Integer.MAX_VALUE;
        int dry = 0;
        for (Takes t : days) {
            least = Math.min(least, t.all(i));
            dry += t.isShort(i) ? 1 : 0;
        }
        return what == 0 ? sum(days, i) : what == 1 ? least : dry;
    }

    int without(int i, int j, int n) {
        if (!hasRight(i) || !hasRight(j) || i == j || !span(n)) {
            return Integer.MIN_VALUE;
        }
        World c = w.copy();
        c.rights.get(j).demand = 0;
        return sum(ahead(c, n), i) - sum(ahead(w, n), i);
    }

    int hurt(int i, int r, int j) {
        if (!hasRight(i) || !hasRight(j) || i == j || !hasReach(r)) {
            return -1;
        }
        World c = w.copy();
        c.rights.get(i).at = r;
        return Math.max(0, sum(ahead(w, 360), j) - sum(ahead(c, 360), j));
    }

    int movable(int i) {
        if (!hasRight(i)) {
            return -1;
        }
        List<Takes> stays = ahead(w, 360);
        int bits = 0;
        for (int r = 0; r < w.reaches.size(); r++) {
            World c = w.copy();
            c.rights.get(i).at = r;
            List<Takes> moved = ahead(c, 360);
            boolean fine = r != w.rights.get(i).at;
            for (int j = 0; j < w.rights.size(); j++) {
                fine &= j == i || sum(moved, j) >= sum(stays, j);
            }
            bits |= fine ? 1 << r : 0;
        }
        return bits;
    }

    int runs(int n, int what) {
        if (!span(n) || what < 0 || what > 3) {
            return -1;
        }
        World c = w.copy();
        int calling = 0;
        for (int k = 0; k < n; k++) {
            Takes t = today(c);
            calling += t.somebodyShort() ? 1 : 0;
            t.pass();
        }
        return what == 3 ? calling : (int) (c.sums[what + 1] - w.sums[what + 1]);
    }

    int dry(int n) {
        if (n < 1 || n > 10) {
            return -1;
        }
        for (int v = 0; v <= 400; v++) {
            World c = w.copy();
            c.wet = v;
            boolean calm = true;
            for (int k = 0; k < n && calm; k++) {
                Takes t = today(c);
                calm = !t.somebodyShort();
                t.pass();
            }
            if (calm) {
                return v;
            }
        }
        return -2;
    }

    int full(int s, int what) {
        if (!hasStore(s) || what < 0 || what > 1) {
            return -1;
        }
        World c = w.copy();
        for (int k = 0; k <= 360; k++) {
            if (c.stores.get(s).content == (what == 0 ? c.stores.get(s).size : 0)) {
                return k;
            }
            today(c).pass();
        }
        return -2;
    }

    int swap(int i, int j, int n, int what) {
        if (!hasRight(i) || !hasRight(j) || i == j || !span(n) || what < 0 || what > 1) {
            return Integer.MIN_VALUE;
        }
        World c = w.copy();
        trade(c, i, j);
        int one = what == 0 ? i : j;
        return sum(ahead(c, n), one) - sum(ahead(w, n), one);
    }

    int spell(int i, int n, int what) {
        if (!hasRight(i) || !span(n) || what < 0 || what > 1) {
            return -1;
        }
        List<Takes> days = ahead(w, n);
        int first = -2;
        int longest = 0;
        for (int from = n - 1; from >= 0; from--) {
            int to = from;
            while (to < n && days.get(to).isShort(i)) {
                to++;
            }
            longest = Math.max(longest, to - from);
            first = days.get(from).isShort(i) ? from : first;
        }
        return what == 0 ? first : longest;
    }

    int gain(int r, int more, int n) {
        if (!hasReach(r) || more < 0 || more > 9999 || !span(n)) {
            return Integer.MIN_VALUE;
        }
        List<Takes> now = ahead(w, n);
        w.moreAt = r;
        w.more = more;
        World c = w.copy();
        c.moreAt = r;
        c.more = more;
        w.moreAt = -1;
        int sum = 0;
        for (int k = 0; k < n; k++) {
            Takes t = today(c);
            for (int i = 0; i < w.rights.size(); i++) {
                sum += t.all(i) - now.get(k).all(i);
            }
            t.pass();
        }
        return sum;
    }

    int share(int i, int n) {
        if (i != -1 && !hasRight(i) || !span(n)) {
            return -1;
        }
        List<Takes> days = ahead(w, n);
        long part = 0;
        long whole = 0;
        for (int j = 0; j < w.rights.size(); j++) {
            part += i == -1 || i == j ? sum(days, j) : 0;
            whole += i == -1 || i == j ? wanted(days, j) : 0;
        }
        return whole == 0 ? 1000 : (int) (part * 1000 / whole);
    }

    int worst(int n) {
        if (!span(n)) {
            return -1;
        }
        int worst = -2;
        for (int i = w.rights.size() - 1; i >= 0; i--) {
            if (worst == -2 || share(i, n) <= share(worst, n)) {
                worst = i;
            }
        }
        return worst;
    }

    long gone(int what) {
        if (what < 0 || what > 7) {
            return Long.MIN_VALUE;
        }
        long stores = 0;
        for (Store s : w.stores) {
            stores += s.content;
        }
        long way = 0;
        for (Parcel p : w.parcels) {
            way += p.amount;
        }
        return what < 5 ? w.sums[what] : what == 5 ? stores : what == 6 ? way : w.gone;
    }

    int coming(int r, int days) {
        return !hasReach(r) || days < 0 || days > 29 ? -1 : w.backAt(r, days);
    }

    int above(int r) {
        if (!hasReach(r)) {
            return -1;
        }
        int bits = 0;
        for (int u = 0; u < w.reaches.size(); u++) {
            bits |= w.runs(u, r) ? 1 << u : 0;
        }
        return bits;
    }

    int aged(int k) {
        List<Integer> takers = byAge(w);
        return k < -1 ? -1 : k == -1 ? takers.size() : k < takers.size() ? takers.get(k) : -2;
    }

    int reach(int r, int what) {
        if (!hasReach(r)) {
            return -1;
        }
        Reach reach = w.reaches.get(r);
        int into = 0;
        int toMouth = 0;
        for (int u = 0; u < w.reaches.size(); u++) {
            into += w.reaches.get(u).down == r ? 1 : 0;
            toMouth += w.runs(r, u) ? 1 : 0;
        }
        switch (what) {
            case 0: return reach.down;
            case 1: return reach.sink;
            case 2: return into;
            case 3: return toMouth;
            case 10: case 11: case 12: case 13: return reach.inflow[what - 10];
            default: return -1;
        }
    }

    int right(int i, int what) {
        if (!hasRight(i) || what < 0 || what > 12) {
            return -1;
        }
        Right r = w.rights.get(i);
        int[] answers = {r.at, r.rate, r.from, r.to, r.age, r.volume, r.left, r.backTo, r.hundredths, r.delay,
            r.demand, r.barter, r.took};
        return answers[what];
    }

    int store(int s, int what) {
        if (!hasStore(s) || what < 0 || what > 6) {
            return -1;
        }
        Store x = w.stores.get(s);
        int[] answers = {x.at, x.size, x.rate, x.age, x.content, x.orderRight, x.orderAmount};
        return answers[what];
    }

    int count(int what) {
        int orders = 0;
        int barters = 0;
        for (Store s : w.stores) {
            orders += s.orderRight == -2 ? 0 : 1;
        }
        for (Right r : w.rights) {
            barters += r.barter == -2 ? 0 : 1;
        }
        int kept = (shelves[0] == null ? 0 : 1) + (shelves[1] == null ? 0 : 2);
        int[] answers = {w.reaches.size(), w.rights.size(), w.stores.size(), w.day(), w.wet, past.size(), 0, kept,
            orders, barters};
        return what < 0 || what >= answers.length ? -1 : answers[what];
    }

    String text() {
        List<String> parts = new ArrayList<>();
        for (Reach r : w.reaches) {
            parts.add("reach " + (r.down == -2 ? "mouth" : "" + r.down) + " " + r.inflow[0] + " " + r.inflow[1] + " "
                + r.inflow[2] + " " + r.inflow[3] + (r.sink == 0 ? "" : " sink " + r.sink));
        }
        for (Right r : w.rights) {
            parts.add("right " + r.at + " " + r.rate + " " + r.from + " " + r.to + " age " + r.age
                + (r.volume == -2 ? "" : " vol " + r.volume)
                + (r.backTo == -2 ? "" : " back " + r.backTo + " " + r.hundredths + " " + r.delay));
        }
        for (Store s : w.stores) {
            parts.add("store " + s.at + " " + s.size + " " + s.rate + " age " + s.age);
        }
        if (w.wet != 100) {
            parts.add("wet " + w.wet);
        }
        return String.join(";", parts);
    }
}
