/** Promises 1 to 14, sentence by sentence: the TAPE, telling, ACTS, what is UNDONE and KEPT. */
public final class ActsEdgeTest {
    private static final Edge EDGE = new Edge();
    private static final int LEAST = Integer.MIN_VALUE;
    private static final int MOST = Integer.MAX_VALUE;
    private static final String ONE = "reach mouth 9 9 9 9;right 0 5 0 359 age 5;store 0 9 2 age 6";

    public static void main(String[] args) {
        newObject();
        feed();
        end();
        tell();
        tellRefused();
        days();
        wet();
        demand();
        order();
        orderElsewhere();
        barter();
        trade();
        move();
        moveHurts();
        hurtTogether();
        undo();
        keep();
        back();
        String[] promises = new String[14];
        for (int i = 0; i < promises.length; i++) {
            promises[i] = Edge.promise(i + 1);
        }
        EDGE.end(promises);
    }

    private static void says(int promise, String words) {
        EDGE.says(Edge.promise(promise), words);
    }

    private static void newObject() {
        says(1, "No REACHES.");
        RiverCall x = new RiverCall();
        EDGE.are("counts", "0 0 0 0 100 0 0 0 0 0", x.count(0), x.count(1), x.count(2), x.count(3), x.count(4), x.count(5),
            x.count(6), x.count(7), x.count(8), x.count(9));
        EDGE.are("of reach 0", "-1 -1 -1 -1 -1", x.reach(0, 0), x.flow(0, 0), x.coming(0, 0), x.above(0), x.thirst(0));
        EDGE.are("of right 0", "-1 -1 -1 -1 -1 -1", x.right(0, 0), x.takes(0, 0), x.shut(0), x.caller(0), x.needs(0), x.movable(0));
        EDGE.are("of store 0", "-1 -1 -1", x.store(0, 0), x.stored(0, 0), x.full(0, 0));
        EDGE.are("acts on nothing", "-1 -1 -1 -1 -1", x.demand(0, 0), x.order(0, 0, 0), x.barter(0, -1), x.trade(0, 1), x.move(0, 0));
        EDGE.are("of all", "0 0 0 0 0 0", x.aged(-1), x.letter(-1), x.calls(0), x.calls(1), x.dry(1), x.runs(1, 0));
        EDGE.are("of two rights", "-1 -1 -2147483648 -2147483648 -2147483648",
            x.futile(0, 1), x.hurt(0, 0, 1), x.without(0, 1, 1), x.swap(0, 1, 1, 0), x.gain(0, 1, 1));
        EDGE.are("share, worst, firm, spell", "1000 -2 -1 -1", x.share(-1, 1), x.worst(1), x.firm(0, 1, 0), x.spell(0, 1, 0));
        EDGE.are("days go by", "60 60", x.days(60), x.gone(7));
        EDGE.are("a river of nothing", "0 0 0", x.tell(), x.count(3), x.gone(7));
    }

    private static void feed() {
        says(2, "Twenty bytes come behind the TAPE, of each number the highest first: how many it has");
        RiverCall x = new RiverCall();
        EDGE.is("feed", x.feed(0x72656163, 0x68206d6f, 0x75746820, 0x31203220, 0x33203420), 20);
        EDGE.is("one more", x.feed(0x73696e6b, 0x20353b77, 0x65742036, 0x20202020, 0x20202020), 40);
        EDGE.are("bytes", "40 0", x.count(6), x.tell());
        EDGE.are("as told", "1 2 3 4 5 6",
            x.reach(0, 10), x.reach(0, 11), x.reach(0, 12), x.reach(0, 13), x.reach(0, 1), x.count(4));
        x.feed(LEAST, MOST, -1, 0, 1);
        EDGE.is("bytes of any kind", x.tell(), -2 - 1);
        x.feed(0x20202020, 0x20202020, 0x20202020, 0x20202020, 0x202020ff);
        EDGE.is("the last of the last", x.tell(), -2 - (8 * 19 + 1));
        says(2, "NONE, and none comes, if it would have more than 400.");
        for (int n = 1; n <= 20; n++) {
            EDGE.is("feed", x.feed(0x20202020, 0x20202020, 0x20202020, 0x20202020, 0x20202020), 20 * n);
        }
        EDGE.are("420", "-1 400", x.feed(0, 0, 0, 0, 0), x.count(6));
        EDGE.are("401", "381 -1 381", x.end(381), x.feed(0, 0, 0, 0, 0), x.count(6));
        EDGE.are("400", "380 400", x.end(380), x.feed(0x20202020, 0x20202020, 0x20202020, 0x20202020, 0x20202020));
        EDGE.are("none came of it", "0 20", x.tell(), x.feed(0, 0, 0, 0, 0));
    }

    private static void end() {
        says(3, "The TAPE has its first n bytes alone: n");
        RiverCall x = new RiverCall();
        EDGE.is("0 of none", x.end(0), 0);
        x.feed(0x77657420, 0x37372020, 0, 0, 0);
        EDGE.are("all", "20 20", x.end(20), x.count(6));
        EDGE.are("its first 5", "5 5 0 7", x.end(5), x.count(6), x.tell(), x.count(4));
        x.feed(0x77657420, 0x37372020, 0, 0, 0);
        EDGE.are("none of them", "0 0 0", x.end(0), x.count(6), x.tell());
        x.feed(0x77657420, 0x37372020, 0, 0, 0);
        x.end(4);
        x.feed(0x38202020, 0x20202020, 0x20202020, 0x20202020, 0x20202020);
        EDGE.are("what comes then stands behind them", "24 0 8", x.count(6), x.tell(), x.count(4));
        says(3, "NONE, and nothing happens, if it has not so many, or n is below 0.");
        EDGE.is("1 of none", x.end(1), -1);
        x.feed(0x77657420, 0x37202020, 0x20202020, 0x20202020, 0x20202020);
        EDGE.are("too many", "-1 -1 -1", x.end(21), x.end(400), x.end(MOST));
        EDGE.are("below 0", "-1 -1", x.end(-1), x.end(LEAST));
        EDGE.are("all its bytes", "20 0 7", x.count(6), x.tell(), x.count(4));
        x.feed(0x77657420, 0x37202020, 0x20202020, 0x20202020, 0x20202020);
        x.end(5);
        EDGE.is("what was cut off", x.end(6), -1);
    }

    private static void tell() {
        says(4, "The TAPE, which is empty then, tells a RIVER in place of the one there was (DAY 0, nothing on its way, no ORDERS, "
            + "BARTERS; nothing can be UNDONE; SHELVES stay): how many RIGHTS");
        RiverCall x = Due.told("reach mouth 9 9 9 9;reach 0 9 9 9 9;right 0 5 0 359 age 5 vol 99 back 0 100 9;store 0 9 2 age 6;"
            + "right 1 5 0 359 age 7");
        x.days(3);
        x.order(0, 0, 1);
        x.barter(0, 0);
        x.trade(0, 1);
        x.demand(0, 3);
        x.wet(50);
        x.keep(1);
        EDGE.are("told anew", "1 0", Due.tell(x, ONE), x.count(6));
        EDGE.are("its counts", "1 1 1 0 100 0 0 2 0 0", x.count(0), x.count(1), x.count(2), x.count(3), x.count(4), x.count(5),
            x.count(6), x.count(7), x.count(8), x.count(9));
        EDGE.are("its right", "0 5 5 -2 -2 5 -2 0", x.right(0, 0), x.right(0, 1), x.right(0, 4), x.right(0, 6), x.right(0, 7),
            x.right(0, 10), x.right(0, 11), x.right(0, 12));
        EDGE.are("its store", "0 -2 0", x.store(0, 4), x.store(0, 5), x.store(0, 6));
        EDGE.are("gone", "0 0 0 0 0 0 0 0",
            x.gone(0), x.gone(1), x.gone(2), x.gone(3), x.gone(4), x.gone(5), x.gone(6), x.gone(7));
        EDGE.are("nothing to undo", "-1", x.undo());
        EDGE.are("the shelf", "3 2 1 1", x.back(1), x.count(1), x.count(8), x.count(9));
        EDGE.are("one of nothing", "0 0 0", x.tell(), x.count(0), x.letter(-1));
        for (int back = 1; back <= 30; back += 29) {
            RiverCall y = Due.told("reach mouth 9 9 9 9;right 0 5 0 0 age 5 back 0 100 " + back);
            y.days(1);
            Due.tell(y, "reach mouth 9 9 9 9");
            EDGE.are("nothing on its way", "0 0 0", y.gone(6), y.coming(0, 0), y.coming(0, 29));
        }
        EDGE.is("no rights", Due.tell(x, "reach mouth 9 9 9 9"), 0);
        EDGE.is("fourteen", Due.tell(x, "reach mouth 9 9 9 9;" + Due.many("right 0 5 0 0 age #", 14)), 14);
    }

    private static void tellRefused() {
        says(4, "-2 - its FAULT, and but for the TAPE nothing happens.");
        RiverCall x = Due.told(ONE);
        x.days(3);
        x.order(0, 0, 1);
        x.keep(0);
        String before = Edge.all(x);
        EDGE.is("a fault at its first byte", Due.tell(x, "x"), -2 - 1);
        EDGE.is("a fault far on", Due.tell(x, "reach mouth 1 1 1 1;reach 0 1 1 1 1;wet 5;"), -2 - (8 * 42 + 1));
        EDGE.is("a number", Due.tell(x, "wet 401"), -2 - (8 * 4 + 2));
        EDGE.is("a word", Due.tell(x, "wet 4;wet 5"), -2 - (8 * 6 + 3));
        EDGE.is("the greatest", Due.tell(x, " ".repeat(397) + "wet"), -2 - (8 * 400 + 1));
        EDGE.is("nothing happened", Edge.all(x), before);
        EDGE.are("acts can be undone", "1 0 -1", x.undo(), x.undo(), x.undo());
    }

    private static void days() {
        says(5, "n DAYS (1 to 60) go by: the DAY it is then");
        RiverCall x = Due.told(ONE);
        EDGE.are("1", "1 1", x.days(1), x.gone(7));
        EDGE.are("60", "61 61", x.days(60), x.gone(7));
        EDGE.are("to the last", "359 359", Due.pass(x, 298), x.gone(7));
        EDGE.are("over it", "0 360", x.days(1), x.gone(7));
        Due.pass(x, 359);
        EDGE.are("60 from the last", "59 779", x.days(60), x.gone(7));
        says(5, "NONE, and nothing happens, for others.");
        String before = Edge.all(x);
        EDGE.are("others", "-1 -1 -1 -1 -1", x.days(0), x.days(61), x.days(-1), x.days(MOST), x.days(LEAST));
        EDGE.is("nothing happened", Edge.all(x), before);
    }

    private static void wet() {
        says(6, "WET is told: what it was");
        RiverCall x = Due.told(ONE);
        EDGE.are("to 0", "100 0 0", x.wet(0), x.count(4), x.flow(0, 0));
        EDGE.are("to 400", "0 400 36", x.wet(400), x.count(4), x.flow(0, 0));
        EDGE.are("to 1", "400 1 0", x.wet(1), x.count(4), x.flow(0, 0));
        EDGE.are("to 399", "1 399 35", x.wet(399), x.count(4), x.flow(0, 0));
        says(6, "NONE, and nothing happens, for others; -2: it is so.");
        String before = Edge.all(x);
        EDGE.are("others", "-1 -1 -1 -1", x.wet(-1), x.wet(401), x.wet(MOST), x.wet(LEAST));
        EDGE.is("it is so", x.wet(399), -2);
        EDGE.is("nothing happened", Edge.all(x), before);
        EDGE.is("so at first", new RiverCall().wet(100), -2);
    }

    private static void demand() {
        says(7, "The DEMAND (0 to its RATE) of a RIGHT is told: what it was");
        RiverCall x = Due.told(ONE);
        EDGE.are("to 0", "5 0 0", x.demand(0, 0), x.right(0, 10), x.takes(0, 0));
        EDGE.are("to its rate", "0 5 5", x.demand(0, 5), x.right(0, 10), x.takes(0, 0));
        EDGE.are("to 1", "5 1 1", x.demand(0, 1), x.right(0, 10), x.takes(0, 0));
        EDGE.are("its rate stays", "5", x.right(0, 1));
        says(7, "NONE, and nothing happens, without these; -2: it is so.");
        String before = Edge.all(x);
        EDGE.are("beyond its rate, below 0", "-1 -1 -1 -1", x.demand(0, 6), x.demand(0, -1), x.demand(0, MOST), x.demand(0, LEAST));
        EDGE.are("no right", "-1 -1 -1 -1", x.demand(1, 0), x.demand(-1, 0), x.demand(MOST, 0), x.demand(LEAST, 0));
        EDGE.is("it is so", x.demand(0, 1), -2);
        EDGE.is("nothing happened", Edge.all(x), before);
        RiverCall y = Due.told("reach mouth 1 1 1 1;right 0 9 0 0 age 1;right 0 3 0 0 age 2");
        EDGE.are("the rate of each", "-2 -1 9 -2", y.demand(0, 9), y.demand(1, 4), y.demand(0, 4), y.demand(1, 3));
    }

    private static void order() {
        says(8, "a STORE lets out so much (0 to 9999; 0: it has none any more) a DAY for a RIGHT: 1");
        RiverCall x = Due.told(ONE + ";right 0 1 0 0 age 7");
        EDGE.are("1", "1 0 1 1", x.order(0, 0, 1), x.store(0, 5), x.store(0, 6), x.count(8));
        EDGE.are("9999", "1 0 9999 1", x.order(0, 0, 9999), x.store(0, 5), x.store(0, 6), x.count(8));
        EDGE.are("for another", "1 1 9999 1", x.order(0, 1, 9999), x.store(0, 5), x.store(0, 6), x.count(8));
        EDGE.are("0, told with the other", "1 -2 0 0", x.order(0, 0, 0), x.store(0, 5), x.store(0, 6), x.count(8));
        EDGE.are("again", "1 0 7 1", x.order(0, 0, 7), x.store(0, 5), x.store(0, 6), x.count(8));
        EDGE.are("0, told with its own", "1 -2 0 0", x.order(0, 0, 0), x.store(0, 5), x.store(0, 6), x.count(8));
        says(8, "NONE, and nothing happens, without these");
        x.order(0, 0, 7);
        String before = Edge.all(x);
        EDGE.are("amounts", "-1 -1 -1 -1", x.order(0, 0, 10000), x.order(0, 0, -1), x.order(0, 0, MOST), x.order(0, 0, LEAST));
        EDGE.are("stores", "-1 -1 -1 -1", x.order(1, 0, 7), x.order(-1, 0, 7), x.order(MOST, 0, 7), x.order(LEAST, 0, 7));
        EDGE.are("rights", "-1 -1 -1 -1", x.order(0, 2, 7), x.order(0, -1, 7), x.order(0, MOST, 7), x.order(0, LEAST, 7));
        EDGE.are("rights with 0", "-1 -1", x.order(0, 2, 0), x.order(0, -1, 0));
        EDGE.is("nothing happened", Edge.all(x), before);
    }

    private static void orderElsewhere() {
        says(8, "-2: it is so (without one, 0 told: so)");
        RiverCall x = Due.told("reach mouth 9 9 9 9;reach 0 9 9 9 9;right 0 5 0 359 age 5;store 0 9 2 age 6;right 1 1 0 0 age 7");
        EDGE.are("without one", "-2 -2 0", x.order(0, 0, 0), x.order(0, 1, 0), x.count(5));
        EDGE.are("with one", "1 -2 1", x.order(0, 0, 3), x.order(0, 0, 3), x.count(5));
        EDGE.are("none any more", "1 -2 -2 2", x.order(0, 0, 0), x.order(0, 0, 0), x.order(0, 1, 0), x.count(5));
        says(8, "-3: the water does not run from the STORE's REACH to the RIGHT's.");
        EDGE.are("upwards", "-3 2 0", x.order(0, 1, 3), x.count(5), x.count(8));
        x.order(0, 0, 3);
        String before = Edge.all(x);
        EDGE.are("upwards with another there", "-3 -3", x.order(0, 1, 3), x.order(0, 1, 0));
        EDGE.is("nothing happened", Edge.all(x), before);
        RiverCall y = Due.told("reach mouth 9 9 9 9;reach mouth 9 9 9 9;reach 0 9 9 9 9;right 1 5 0 359 age 5;store 2 9 2 age 6;"
            + "right 0 1 0 0 age 7;right 2 1 0 0 age 8");
        EDGE.are("another arm, below, its own", "-3 1 1", y.order(0, 0, 1), y.order(0, 1, 1), y.order(0, 2, 1));
    }

    private static void barter() {
        says(9, "A BARTER of a RIGHT with a STORE (NONE: none any more): 1");
        String text = "reach mouth 9 9 9 9;reach 0 9 9 9 9;right 1 5 0 359 age 5;right 0 5 0 359 age 6;store 1 9 2 age 7;store 0 9 2 age 8";
        RiverCall x = Due.told(text);
        EDGE.are("with 0", "1 0 1", x.barter(0, 0), x.right(0, 11), x.count(9));
        EDGE.are("with 1", "1 1 1", x.barter(0, 1), x.right(0, 11), x.count(9));
        EDGE.are("of another", "1 1 2", x.barter(1, 1), x.right(1, 11), x.count(9));
        EDGE.are("none any more", "1 -2 1", x.barter(0, -1), x.right(0, 11), x.count(9));
        says(9, "NONE, and nothing happens, without these; -2: it is so; -3: the water does not run from the RIGHT's REACH to the "
            + "STORE's.");
        String before = Edge.all(x);
        EDGE.are("stores", "-1 -1 -1 -1", x.barter(0, 2), x.barter(0, -2), x.barter(0, MOST), x.barter(0, LEAST));
        EDGE.are("rights", "-1 -1 -1 -1 -1", x.barter(2, 0), x.barter(-1, 0), x.barter(MOST, 0), x.barter(LEAST, 0), x.barter(-1, -1));
        EDGE.are("so", "-2 -2", x.barter(1, 1), x.barter(0, -1));
        EDGE.is("downwards", x.barter(1, 0), -3);
        EDGE.is("nothing happened", Edge.all(x), before);
        RiverCall y = Due.told("reach mouth 9 9 9 9;reach mouth 9 9 9 9;right 1 5 0 359 age 5;store 0 9 2 age 7");
        EDGE.are("another arm", "-3 0", y.barter(0, 0), y.count(9));
    }

    private static void trade() {
        says(10, "Two RIGHTS trade their AGES: 1");
        RiverCall x = Due.told("reach mouth 5 5 5 5;right 0 5 0 359 age 9999;right 0 5 0 359 age 0;store 0 1 1 age 7");
        EDGE.are("trade", "1 0 9999 0", x.trade(0, 1), x.right(0, 4), x.right(1, 4), x.aged(0));
        EDGE.are("who takes", "5 0", x.takes(0, 0), x.takes(1, 0));
        EDGE.are("back", "1 9999 0", x.trade(1, 0), x.right(0, 4), x.right(1, 4));
        says(10, "NONE, and nothing happens, without these, or if they are one.");
        String before = Edge.all(x);
        EDGE.are("one", "-1 -1", x.trade(0, 0), x.trade(1, 1));
        EDGE.are("others", "-1 -1 -1 -1", x.trade(0, 2), x.trade(2, 0), x.trade(0, -1), x.trade(-1, 0));
        EDGE.are("far others", "-1 -1 -1 -1", x.trade(MOST, 0), x.trade(0, MOST), x.trade(LEAST, 0), x.trade(0, LEAST));
        EDGE.are("one that is none", "-1 -1", x.trade(-1, -1), x.trade(2, 2));
        EDGE.are("a store", "-1", x.trade(0, 100));
        EDGE.is("nothing happened", Edge.all(x), before);
    }

    private static void move() {
        says(11, "A RIGHT moves to another REACH, if nobody is HURT in the next 360 DAYS: 1");
        RiverCall x = Due.told("reach mouth 9 9 9 9;reach 0 5 5 5 5;right 1 4 0 359 age 5;right 0 5 0 359 age 6;store 0 9 1 age 7");
        EDGE.are("moves", "1 0 0", x.move(0, 0), x.right(0, 0), x.flow(1, 3));
        EDGE.are("back", "1 1 4", x.move(0, 1), x.right(0, 0), x.flow(1, 3));
        says(11, "NONE, and nothing happens, without these; -2: it is there; -3: somebody is.");
        String before = Edge.all(x);
        EDGE.are("reaches", "-1 -1 -1 -1", x.move(0, 2), x.move(0, -1), x.move(0, MOST), x.move(0, LEAST));
        EDGE.are("rights", "-1 -1 -1 -1", x.move(2, 0), x.move(-1, 0), x.move(MOST, 0), x.move(LEAST, 0));
        EDGE.are("there", "-2 -2", x.move(0, 1), x.move(1, 0));
        EDGE.is("nothing happened", Edge.all(x), before);
        RiverCall y = Due.told("reach mouth 5 5 5 5;reach mouth 5 5 5 5;right 0 5 0 359 age 5;right 1 1 0 359 age 6;store 1 9 1 age 7");
        before = Edge.all(y);
        EDGE.are("somebody", "-3 360 0", y.move(0, 1), y.hurt(0, 1, 1), y.movable(0));
        EDGE.is("nothing happened", Edge.all(y), before);
        RiverCall z = Due.told("reach mouth 5 5 5 5;reach mouth 5 5 5 5;right 0 5 0 359 age 5;store 1 999 5 age 6");
        EDGE.are("a store is nobody", "5 1 0", z.stored(0, 0), z.move(0, 1), z.stored(0, 0));
    }

    /** RIGHT 0 takes on DAY 359; what runs BACK of it RIGHT 1 takes on DAY 0, if RIGHT 0 does not move to REACH 2. */
    private static final String LATE = "reach mouth 0 0 0 0;reach mouth 0 0 0 1;reach mouth 0 0 0 0;"
        + "right 1 1 359 359 age 1 back 0 100 1;right 0 1 0 0 age 2";

    private static void moveHurts() {
        says(11, "(HURT: another RIGHT takes less in these DAYS together than if it did not move.)");
        RiverCall x = Due.told(LATE);
        EDGE.are("on the 361st day", "0 5", x.hurt(0, 2, 1), x.movable(0));
        EDGE.are("is none of these days", "1 2", x.move(0, 2), x.right(0, 0));
        x.undo();
        x.days(1);
        EDGE.are("on the 360th day", "1 0 -3", x.hurt(0, 2, 1), x.movable(0), x.move(0, 2));
        // RIGHT 1 takes on DAY 359 alone, where RIGHT 0 comes.
        RiverCall y = Due.told("reach mouth 1 1 1 1;reach mouth 1 1 1 1;right 0 1 359 359 age 1;right 1 1 359 359 age 2");
        EDGE.are("on the last day", "1 -3 0", y.hurt(0, 1, 1), y.move(0, 1), y.movable(0));
        EDGE.are("one younger comes", "0 1 1", y.hurt(1, 0, 0), y.movable(1), y.move(1, 0));
    }

    private static void hurtTogether() {
        // RIGHT 1 has what runs BACK: now on DAY 1; on DAY 91, were RIGHT 0 at REACH 2; one less, were it at REACH 3.
        RiverCall x = Due.told("reach mouth 0 0 0 0;reach mouth 4 0 0 0;reach mouth 0 4 0 0;reach mouth 3 0 0 0;"
            + "right 1 4 0 359 age 1 vol 4 back 0 100 1;right 0 4 0 359 age 2");
        EDGE.are("as much together", "0 1", x.hurt(0, 2, 1), x.movable(0) >> 2 & 1);
        EDGE.are("once its volume is taken, as much", "0 1", x.hurt(0, 3, 1), x.movable(0) >> 3 & 1);
        RiverCall y = Due.told("reach mouth 0 0 0 0;reach mouth 4 4 4 4;reach mouth 3 3 3 3;"
            + "right 1 4 5 5 age 1 back 0 100 1;right 0 4 0 359 age 2");
        EDGE.are("one less", "1 -3", y.hurt(0, 2, 1), y.move(0, 2));
        y.demand(0, 3);
        EDGE.are("no less", "0 1", y.hurt(0, 2, 1), y.move(0, 2));
    }

    private static void undo() {
        says(12, "The last ACT is UNDONE: how many more can be");
        RiverCall x = Due.told(ONE + ";right 0 2 0 359 age 4 vol 9 back 0 50 30");
        String first = Due.whole(x);
        x.days(59);
        x.wet(0);
        String second = Due.whole(x);
        x.demand(0, 1);
        x.order(0, 0, 1);
        x.barter(0, 0);
        x.trade(0, 1);
        EDGE.are("four", "5 4 3 2", x.undo(), x.undo(), x.undo(), x.undo());
        EDGE.is("as it was behind two", Due.whole(x), second);
        EDGE.are("two", "1 0", x.undo(), x.undo());
        EDGE.is("as it was first", Due.whole(x), first);
        says(12, "NONE, and nothing happens, if none can.");
        EDGE.are("none", "-1 -1 0", x.undo(), x.undo(), x.count(5));
        RiverCall y = Due.told(ONE);
        String before = Edge.all(y);
        EDGE.is("none of a river just told", y.undo(), -1);
        EDGE.is("nothing happened", Edge.all(y), before);
        RiverCall z = Due.told("reach mouth 9 9 9 9;right 0 5 0 359 age 1 vol 9 back 0 100 1");
        Due.pass(z, 359);
        EDGE.are("over the year's end", "0 9", z.days(1), z.right(0, 6));
        EDGE.are("undone", "6 359 0 359", z.undo(), z.count(3), z.right(0, 6), z.gone(7));
    }

    private static void keep() {
        says(13, "All is KEPT on a SHELF: the DAY");
        RiverCall x = Due.told(ONE);
        EDGE.are("shelf 0", "0 1", x.keep(0), x.count(7));
        x.days(60);
        EDGE.are("shelf 1", "60 3", x.keep(1), x.count(7));
        EDGE.are("each its own", "0 60", x.back(0), x.back(1));
        x.days(7);
        EDGE.are("kept anew", "67 3 67", x.keep(0), x.count(7), x.back(0));
        x.wet(5);
        EDGE.are("no act, none is lost", "67 1 0 100", x.keep(0), x.count(5), x.undo(), x.count(4));
        says(13, "NONE, and nothing happens, without that SHELF.");
        RiverCall y = Due.told(ONE);
        String before = Edge.all(y);
        EDGE.are("others", "-1 -1 -1 -1", y.keep(2), y.keep(-1), y.keep(MOST), y.keep(LEAST));
        EDGE.are("wide shifts", "-1 -1", y.keep(32), y.keep(33));
        EDGE.is("nothing happened", Edge.all(y), before);
    }

    private static void back() {
        says(14, "All is as it was KEPT (nothing can be UNDONE then): the DAY");
        String text = "reach mouth 9 8 7 6 sink 1;reach 0 5 4 3 2 sink 2;right 1 4 3 357 age 9 vol 99 back 0 50 4;store 1 9 3 age 1;"
            + "right 0 4 2 358 age 8;wet 90";
        RiverCall x = Due.told(text);
        x.days(40);
        x.order(0, 1, 2);
        x.barter(0, 0);
        x.trade(0, 1);
        x.demand(0, 3);
        x.keep(1);
        String before = Due.whole(x);
        Due.tell(x, "reach mouth 1 1 1 1;reach mouth 2 2 2 2;reach mouth 1 1 1 1;" + Due.many("right 2 7 7 7 age #", 3)
            + ";store 2 1 1 age 9;store 1 1 1 age 8");
        x.days(1);
        EDGE.are("back", "40 0 -1", x.back(1), x.count(5), x.undo());
        EDGE.is("all", Due.whole(x), before);
        says(14, "NONE, and nothing happens, without that SHELF; -2: nothing is KEPT.");
        RiverCall y = Due.told(ONE);
        y.days(1);
        y.keep(1);
        before = Edge.all(y);
        EDGE.are("others", "-1 -1 -1 -1", y.back(2), y.back(-1), y.back(MOST), y.back(LEAST));
        EDGE.are("wide shifts", "-1 -1", y.back(32), y.back(33));
        EDGE.is("nothing kept", y.back(0), -2);
        EDGE.is("nothing happened", Edge.all(y), before);
        EDGE.are("kept behind an act: none to undo", "1 0 -1", y.back(1), y.count(5), y.undo());
    }
}
