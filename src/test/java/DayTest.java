/** Part II and promises 15 to 24, 30, 33 to 35: what is so on a DAY. */
public final class DayTest {
    private static final Due DUE = new Due();

    public static void main(String[] args) {
        told();
        byAge();
        sinkBelowIsSpared();
        seasonVolumeDemand();
        storesFill();
        orders();
        ordersByStores();
        barters();
        barterAtOneReach();
        runsBack();
        callers();
        futileCalls();
        byAges();
        above();
        thirst();
        longest();
        most();
        least();
        DUE.end();
    }

    private static void row(String call, long[] got, long... want) {
        for (int i = 0; i < Math.max(got.length, want.length); i++) {
            DUE.is(call + " " + i, i < got.length ? got[i] : -99, i < want.length ? want[i] : -98);
        }
    }

    private static long[] flows(RiverCall x, int reach) {
        return new long[] {x.flow(reach, 0), x.flow(reach, 1), x.flow(reach, 2), x.flow(reach, 3), x.flow(reach, 4)};
    }

    private static long[] takes(RiverCall x, int right) {
        return new long[] {x.takes(right, 0), x.takes(right, 1), x.takes(right, 2), x.takes(right, 3), x.takes(right, 4)};
    }

    private static long[] stored(RiverCall x, int store) {
        return new long[] {x.stored(store, 0), x.stored(store, 1), x.stored(store, 2), x.stored(store, 3)};
    }

    private static void told() {
        RiverCall x = Due.told("reach mouth 1 2 3 4;reach 0 5 6 7 8 sink 9;reach 1 1 1 1 1;reach 1 1 1 1 1;"
            + "reach mouth 1 1 1 1;right 2 50 10 20 age 7 vol 600 back 1 30 4;right 0 9 0 359 age 3;store 3 100 20 age 5");
        row("reach 0", new long[] {x.reach(0, 0), x.reach(0, 1), x.reach(0, 2), x.reach(0, 3)}, -2, 0, 1, 1);
        row("reach 1", new long[] {x.reach(1, 0), x.reach(1, 1), x.reach(1, 2), x.reach(1, 3)}, 0, 9, 2, 2);
        row("reach 3", new long[] {x.reach(3, 0), x.reach(3, 1), x.reach(3, 2), x.reach(3, 3)}, 1, 0, 0, 3);
        row("reach 4", new long[] {x.reach(4, 0), x.reach(4, 3)}, -2, 1);
        row("inflows", new long[] {x.reach(1, 10), x.reach(1, 11), x.reach(1, 12), x.reach(1, 13)}, 5, 6, 7, 8);
        row("no reach", new long[] {x.reach(5, 0), x.reach(-1, 0), x.reach(0, 4), x.reach(0, 9), x.reach(0, 14),
            x.reach(0, -1)}, -1, -1, -1, -1, -1, -1);
        int[] right = {2, 50, 10, 20, 7, 600, 600, 1, 30, 4, 50, -2, 0};
        int[] plain = {0, 9, 0, 359, 3, -2, -2, -2, 0, 0, 9, -2, 0};
        for (int what = 0; what < right.length; what++) {
            DUE.is("right 0 " + what, x.right(0, what), right[what]);
            DUE.is("right 1 " + what, x.right(1, what), plain[what]);
        }
        row("no right", new long[] {x.right(2, 0), x.right(-1, 0), x.right(0, 13), x.right(0, -1)}, -1, -1, -1, -1);
        int[] store = {3, 100, 20, 5, 0, -2, 0};
        for (int what = 0; what < store.length; what++) {
            DUE.is("store 0 " + what, x.store(0, what), store[what]);
        }
        row("no store", new long[] {x.store(1, 0), x.store(-1, 0), x.store(0, 7), x.store(0, -1)}, -1, -1, -1, -1);
    }

    private static void byAge() {
        RiverCall x = Due.told(Due.CALLED);
        row("flow 0", flows(x, 0), 10, 0, 40, 40, 0);
        row("flow 1", flows(x, 1), 50, 0, 50, 15, 30);
        row("takes 0", takes(x, 0), 40, 40, 0, 0, 40);
        row("takes 1", takes(x, 1), 15, 15, 0, 0, 30);
        row("stored 0", stored(x, 0), 0, 0, 0, 0);
        row("no flow", new long[] {x.flow(2, 0), x.flow(-1, 0), x.flow(0, 5), x.flow(0, -1)}, -1, -1, -1, -1);
        row("no takes", new long[] {x.takes(2, 0), x.takes(-1, 0), x.takes(0, 5), x.takes(0, -1)}, -1, -1, -1, -1);
        row("no stored", new long[] {x.stored(1, 0), x.stored(-1, 0), x.stored(0, 4), x.stored(0, -1)}, -1, -1, -1, -1);
        DUE.is("nothing is changed", x.gone(7), 0);
        x.wet(199);
        DUE.is("inflow downwards", x.flow(0, 0), 19);
        x.wet(200);
        row("takes 1 when wet", takes(x, 1), 30, 30, 0, 0, 30);
        row("stored 0 when wet", stored(x, 0), 20, 0, 0, 20);
    }

    /** What a SINK swallows may be taken above, though the one below takes all that comes. */
    private static void sinkBelowIsSpared() {
        RiverCall x = Due.told("reach mouth 0 0 0 0;reach 0 5 5 5 5 sink 9;right 0 4 0 359 age 1;right 1 3 0 359 age 2");
        row("the older one has none", takes(x, 0), 0, 0, 0, 0, 4);
        row("the younger one has", takes(x, 1), 3, 3, 0, 0, 3);
        // 20 come, 8 are lost, 12 reach the older one; but if all 20 go, none would be lost.
        RiverCall y = Due.told("reach mouth 1 1 1 1;reach 0 20 20 20 20 sink 8;right 0 9 0 359 age 1;right 1 20 0 359 age 2");
        row("the younger one, 4 to spare", takes(y, 1), 4, 4, 0, 0, 20);
        y.demand(0, 1);
        row("the younger one, all", takes(y, 1), 20, 20, 0, 0, 20);
        y.demand(0, 2);
        row("the younger one, 11", takes(y, 1), 11, 11, 0, 0, 20);
    }

    private static void seasonVolumeDemand() {
        RiverCall x = Due.told("reach mouth 100 100 100 100;right 0 30 1 3 age 1 vol 70");
        DUE.is("ahead of the season", x.takes(0, 4), 0);
        x.days(1);
        DUE.is("its first day", x.takes(0, 0), 30);
        x.days(1);
        DUE.is("left", x.right(0, 6), 40);
        x.demand(0, 29);
        DUE.is("its demand", x.takes(0, 4), 29);
        x.days(1);
        DUE.is("left of the volume", x.takes(0, 4), 11);
        DUE.is("its last day", x.takes(0, 0), 11);
        DUE.is("not short", x.calls(0), 0);
        x.days(1);
        DUE.is("behind the season", x.takes(0, 4), 0);
        DUE.is("all it took", x.right(0, 12), 70);
        DUE.is("nothing left", x.right(0, 6), 0);
        for (int i = 0; i < 5; i++) {
            x.days(60);
        }
        DUE.is("day 359", x.days(55), 359);
        DUE.is("still nothing left", x.right(0, 6), 0);
        DUE.is("day 0", x.days(1), 0);
        DUE.is("volume as told", x.right(0, 6), 70);
        DUE.is("all it took stays", x.right(0, 12), 70);
        DUE.is("quarters", Due.told("reach mouth 1 2 3 4").flow(0, 0), 1);
        RiverCall q = Due.told("reach mouth 1 2 3 4");
        q.days(60);
        q.days(29);
        DUE.is("day 89", q.flow(0, 0), 1);
        q.days(1);
        DUE.is("day 90", q.flow(0, 0), 2);
        q.days(60);
        q.days(60);
        q.days(60);
        DUE.is("day 270", q.flow(0, 0), 4);
    }

    private static void storesFill() {
        RiverCall x = Due.told("reach mouth 10 10 10 10;store 0 25 8 age 1;right 0 9 0 359 age 2");
        row("store first", stored(x, 0), 8, 0, 0, 8);
        DUE.is("the younger right", x.takes(0, 0), 2);
        x.days(3);
        DUE.is("content", x.store(0, 4), 24);
        row("what it lacks", stored(x, 0), 1, 0, 0, 25);
        x.days(1);
        row("full", stored(x, 0), 0, 0, 0, 25);
        RiverCall y = Due.told("reach mouth 9 9 9 9;store 0 5 3 age 1;store 0 5 2 age 2;right 0 1 0 359 age 3;right 0 2 0 359 age 4");
        row("all at one reach", flows(y, 0), 9, 0, 9, 8, 1);
        y.days(1);
        DUE.is("in both stores", y.gone(5), 5);
        DUE.is("the right has all", x.takes(0, 0), 9);
    }

    private static void orders() {
        // The store above, the right below; a sink between.
        RiverCall x = Due.told("reach mouth 0 0 0 0;reach 0 30 30 0 0 sink 4;reach mouth 5 5 5 5;right 0 20 0 359 age 9;"
            + "store 1 100 30 age 1;right 2 5 0 359 age 3");
        DUE.is("other way", x.order(0, 1, 5), -3);
        DUE.is("order", x.order(0, 0, 12), 1);
        row("nothing is in it", stored(x, 0), 30, 0, 0, 30);
        x.days(1);
        row("lets out 12", stored(x, 0), 30, 12, 0, 48);
        row("takes what comes", takes(x, 0), 8, 0, 8, 0, 20);
        row("with what it lets out", flows(x, 1), 30, 0, 42, 30, 8);
        row("below", flows(x, 0), 0, 0, 8, 8, 0);
        x.order(0, 0, 60);
        row("what was in it", stored(x, 0), 30, 30, 0, 30);
        row("no more than it wants", takes(x, 0), 20, 0, 20, 0, 20);
        x.demand(0, 0);
        row("it lets out all the same", stored(x, 0), 30, 30, 0, 30);
        DUE.is("out of the mouth", x.flow(0, 4), 26);
        x.demand(0, 20);
        x.demand(1, 0);
        DUE.is("moves away", x.move(0, 2), 1);
        row("does nothing then", stored(x, 0), 30, 0, 0, 60);
        row("nor is it taken", takes(x, 0), 5, 5, 0, 0, 20);
        DUE.is("the order is there", x.store(0, 5), 0);
        DUE.is("how much", x.store(0, 6), 60);
        // No more than was let out, though there would be more to take.
        RiverCall y = Due.told("reach mouth 50 50 50 50;reach mouth 0 0 0 0;right 0 9 0 359 age 2 vol 12;store 0 7 7 age 1");
        y.days(1);
        y.demand(0, 1);
        y.order(0, 0, 3);
        row("has all it wants", takes(y, 0), 1, 1, 0, 0, 1);
        y.demand(0, 9);
        row("the volume", takes(y, 0), 3, 3, 0, 0, 3);
    }

    private static void ordersByStores() {
        RiverCall x = Due.told("reach mouth 0 10 0 0;store 0 9 9 age 1;store 0 9 1 age 2;right 0 10 0 359 age 3");
        for (int i = 0; i < 4; i++) {
            x.days(25);
        }
        DUE.is("content 0", x.store(0, 4), 9);
        DUE.is("content 1", x.store(1, 4), 9);
        x.wet(20);
        DUE.is("order of 1", x.order(1, 0, 9), 1);
        DUE.is("order of 0", x.order(0, 0, 5), 1);
        row("both", takes(x, 0), 10, 2, 8, 0, 10);
        DUE.is("out", x.flow(0, 4), 6);
        DUE.is("two orders", x.count(8), 2);
    }

    private static void barters() {
        // The right above takes what the store below gives for it to the one below.
        RiverCall x = Due.told("reach mouth 0 0 0 0;reach 0 10 10 10 10 sink 2;reach 1 6 6 6 6;right 0 14 0 359 age 1;"
            + "right 2 6 0 359 age 5;store 0 40 40 age 7;right 1 9 0 359 age 6");
        row("the oldest", takes(x, 0), 14, 14, 0, 0, 14);
        row("the one above", takes(x, 1), 0, 0, 0, 0, 6);
        x.wet(400);
        x.days(1);
        x.wet(100);
        DUE.is("content", x.store(0, 4), 33);
        DUE.is("barter", x.barter(1, 0), 1);
        row("barters", takes(x, 1), 6, 0, 0, 6, 6);
        row("the store lets out", stored(x, 0), 0, 0, 6, 27);
        row("the oldest still", takes(x, 0), 14, 14, 0, 0, 14);
        DUE.is("barter of another", x.barter(2, 0), 1);
        row("all but what the sink has", takes(x, 2), 9, 0, 0, 9, 9);
        row("the store for both", stored(x, 0), 0, 0, 15, 18);
        DUE.is("two barters", x.count(9), 2);
        DUE.is("order besides", x.order(0, 0, 30), 1);
        row("the order comes first", stored(x, 0), 0, 30, 3, 0);
        row("the first has the rest", takes(x, 1), 3, 0, 0, 3, 6);
        row("the second none", takes(x, 2), 0, 0, 0, 0, 9);
        DUE.is("its store", x.right(1, 11), 0);
    }

    private static void barterAtOneReach() {
        RiverCall x = Due.told("reach mouth 5 0 0 0;store 0 40 5 age 1;right 0 9 0 359 age 2");
        x.days(4);
        DUE.is("barter", x.barter(0, 0), 1);
        row("takes", takes(x, 0), 9, 0, 0, 9, 9);
        row("flow", flows(x, 0), 5, 0, 14, 14, 0);
        row("stored", stored(x, 0), 5, 0, 9, 16);
        x.demand(0, 0);
        row("wants none", stored(x, 0), 5, 0, 0, 25);
    }

    private static void runsBack() {
        RiverCall x = Due.told(Due.CALLED);
        x.days(1);
        DUE.is("half of 15, downwards", x.coming(0, 1), 7);
        DUE.is("not today", x.coming(0, 0), 0);
        DUE.is("on its way", x.gone(6), 7);
        DUE.is("ran back", x.gone(4), 0);
        x.days(1);
        DUE.is("comes today", x.flow(0, 1), 7);
        DUE.is("so much more", x.takes(1, 0), 22);
        x.days(1);
        DUE.is("ran back then", x.gone(4), 7);
        row("no coming", new long[] {x.coming(0, -1), x.coming(0, 30), x.coming(2, 0), x.coming(-1, 0)}, -1, -1, -1, -1);
        RiverCall y = Due.told("reach mouth 10 10 10 10;right 0 10 0 0 age 1 back 0 100 30");
        y.days(1);
        DUE.is("in 29 days", y.coming(0, 29), 10);
        y.days(29);
        DUE.is("today", y.flow(0, 2), 20);
        y.days(1);
        DUE.is("no more", y.gone(6), 0);
    }

    private static void callers() {
        RiverCall x = Due.told(Due.CALLED);
        row("shut", new long[] {x.shut(0), x.shut(1), x.shut(2), x.shut(-1)}, 0, 15, -1, -1);
        row("caller", new long[] {x.caller(0), x.caller(1), x.caller(2), x.caller(-1)}, -2, 0, -1, -1);
        row("calls", new long[] {x.calls(0), x.calls(1), x.calls(2), x.calls(-1)}, 2, 0, -1, -1);
        RiverCall y = Due.told("reach mouth 10 10 10 10;store 0 100 4 age 1;right 0 5 0 359 age 2;right 0 3 0 359 age 3");
        DUE.is("by the store", y.caller(1), 100);
        DUE.is("shut by both", y.shut(1), 2);
        DUE.is("the older one is not", y.caller(0), -2);
        RiverCall z = Due.told("reach mouth 0 0 0 0;right 0 5 0 359 age 2;right 0 3 0 359 age 3");
        DUE.is("no water, no caller", z.caller(1), -2);
        DUE.is("no water, not shut", z.shut(1), 0);
        DUE.is("both call", z.calls(0), 3);
        // Without one alone of three there is still too little, but for the greatest.
        RiverCall w = Due.told("reach mouth 6 6 6 6;right 0 1 0 359 age 1;right 0 9 0 359 age 2;right 0 9 0 359 age 3");
        DUE.is("without the first the second has all", w.caller(2), 1);
        DUE.is("caller of the second", w.caller(1), 0);
    }

    private static void futileCalls() {
        RiverCall x = Due.told("reach mouth 0 0 0 0;reach 0 5 5 5 5 sink 9;right 0 4 0 359 age 1;right 1 3 0 359 age 2;"
            + "reach mouth 9 9 9 9;right 2 3 0 359 age 7;right 1 3 0 359 age 8;right 1 3 0 359 age 9");
        DUE.is("calls", x.calls(0), 1 | 8 | 16);
        row("futile of 0", new long[] {x.futile(0, 1), x.futile(0, 2), x.futile(0, 3), x.futile(0, 4)}, 1, 0, 1, 0);
        row("not on an older one", new long[] {x.futile(3, 1), x.futile(1, 3), x.futile(3, 4)}, 0, 0, 0);
        DUE.is("futile on some", x.calls(1), 1);
        row("no futile", new long[] {x.futile(0, 0), x.futile(0, 5), x.futile(5, 0), x.futile(-1, 0)}, -1, -1, -1, -1);
        RiverCall y = Due.told("reach mouth 4 4 4 4;reach 0 4 4 4 4;right 0 9 0 359 age 1;right 0 2 0 359 age 3;store 0 9 9 age 2");
        row("at one reach, none taken", new long[] {y.futile(0, 1), y.calls(1)}, 0, 0);
        RiverCall z = Due.told("reach mouth 0 0 0 0;reach 0 1 1 1 1 sink 1;right 0 1 0 359 age 1;right 1 1 0 359 age 2");
        row("one is something", new long[] {z.futile(0, 1), z.calls(1)}, 1, 1);
        z.demand(0, 0);
        row("it does not call", new long[] {z.futile(0, 1), z.calls(1)}, 0, 0);
    }

    private static void byAges() {
        RiverCall x = Due.told("reach mouth 1 1 1 1;right 0 1 0 0 age 9;right 0 1 0 0 age 0;store 0 1 1 age 5;"
            + "store 0 1 1 age 9999;right 0 1 0 0 age 10");
        row("aged", new long[] {x.aged(0), x.aged(1), x.aged(2), x.aged(3), x.aged(4)}, 1, 100, 0, 2, 101);
        row("aged edges", new long[] {x.aged(-1), x.aged(5), x.aged(-2), x.aged(Integer.MAX_VALUE)}, 5, -2, -1, -2);
        x.trade(0, 1);
        row("traded", new long[] {x.aged(0), x.aged(1), x.aged(2)}, 0, 100, 1);
    }

    private static void above() {
        RiverCall x = Due.told("reach mouth 1 1 1 1;reach 0 1 1 1 1;reach 0 1 1 1 1;reach 2 1 1 1 1;reach mouth 1 1 1 1");
        row("above", new long[] {x.above(0), x.above(1), x.above(2), x.above(3), x.above(4)}, 15, 2, 12, 8, 16);
        row("no above", new long[] {x.above(5), x.above(-1)}, -1, -1);
    }

    /** Twelve REACHES, each running DOWN to the one ahead. */
    private static void longest() {
        StringBuilder text = new StringBuilder("reach mouth 0 0 0 0sink1");
        for (int i = 1; i < 12; i++) {
            text.append(";reach ").append(i - 1).append(i == 11 ? " 20 20 20 20" : " 0 0 0 0").append("sink1");
        }
        RiverCall x = Due.told(text + ";right 0 6 0 359 age 1;right 11 9 0 359 age 2;store 11 9 9 age 3");
        DUE.is("to the mouth", x.reach(11, 3), 12);
        DUE.is("above", x.above(0), 4095);
        row("the one at the mouth", takes(x, 0), 6, 6, 0, 0, 6);
        row("the one on top, 3 to spare", takes(x, 1), 3, 3, 0, 0, 9);
        DUE.is("out of the last", x.flow(0, 4), 0);
        DUE.is("coming to the last", x.flow(0, 2), 6);
        DUE.is("caller", x.caller(1), 0);
        DUE.is("thirst", x.thirst(11), 1);
        x.wet(0);
        DUE.is("thirst of all", x.thirst(11), 12);
        DUE.is("order", x.order(0, 0, 1), 1);
        DUE.is("none in it", x.takes(0, 2), 0);
    }

    /** Fourteen RIGHTS and four STORES. */
    private static void most() {
        StringBuilder text = new StringBuilder("reach mouth 20 20 20 20");
        for (int i = 0; i < 14; i++) {
            text.append(";right 0 2 0 359age").append(30 - i);
        }
        for (int i = 0; i < 4; i++) {
            text.append(";store 0 9 1age").append(i);
        }
        RiverCall x = Due.told(text.toString());
        DUE.is("all", x.aged(-1), 18);
        row("oldest", new long[] {x.aged(0), x.aged(3), x.aged(4), x.aged(17)}, 100, 103, 13, 0);
        DUE.is("calls", x.calls(0), 63);
        DUE.is("futile", x.calls(1), 0);
        DUE.is("the next one has what the oldest leaves", x.caller(5), 100);
        DUE.is("what one leaves does not come to this one", x.caller(4), -2);
        DUE.is("shut", x.shut(0), 2);
        row("flow", flows(x, 0), 20, 0, 20, 20, 0);
        x.days(1);
        DUE.is("in stores", x.gone(5), 4);
        DUE.is("runs", x.runs(9, 2), 8 * 16 + 20);
        DUE.is("movable", x.movable(13), 0);
        DUE.is("share", x.share(-1, 1), 16000 / 28);
        DUE.is("worst", x.worst(1), 0);
    }

    private static void least() {
        RiverCall x = Due.told("reach mouth 9 9 9 9;right 0 9 0 359 age 0 vol 1 back 0 100 30;right 0 9 0 359 age 2");
        row("volume of 1", new long[] {x.right(0, 5), x.right(0, 6), x.takes(0, 4), x.takes(1, 0)}, 1, 1, 1, 8);
        x.days(1);
        row("nothing left", new long[] {x.right(0, 6), x.takes(0, 4), x.calls(0)}, 0, 0, 0);
        DUE.is("on its way", x.gone(6), 1);
        RiverCall y = Due.told("reach mouth 0 0 0 0;reach 0 1 1 1 1 sink 1;right 1 1 0 359 age 2;right 0 1 0 359 age 1");
        row("futile on the first", new long[] {y.futile(1, 0), y.calls(1)}, 1, 2);
        DUE.is("nothing of one", y.share(1, 1), 0);
    }

    private static void thirst() {
        RiverCall x = Due.told("reach mouth 1 1 1 1 sink 9;reach 0 10 10 10 10 sink 20;reach 1 5 5 5 5;right 1 3 0 359 age 1;"
            + "reach mouth 1 1 1 1 sink 9999;reach 3 0 0 0 0 sink 9");
        row("thirst", new long[] {x.thirst(0), x.thirst(1), x.thirst(2), x.thirst(3), x.thirst(4)}, 8, 16, 16, 9998, 9999);
        row("no thirst", new long[] {x.thirst(5), x.thirst(-1)}, -1, -1);
        DUE.is("none without sinks", Due.told("reach mouth 0 0 0 0").thirst(0), 0);
    }
}
