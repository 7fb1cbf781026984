/** Part II, sentence by sentence: what comes, who takes, what is then, who is short by whom, ACTS and SHELVES. */
public final class DayEdgeTest {
    private static final Edge EDGE = new Edge();
    /** 9 a DAY come to a STORE of 20, the oldest; the RIGHT below wants 9. */
    private static final String ORDERED = "reach mouth 0 0 0 0;reach 0 9 9 9 9;store 1 20 9 age 1;right 0 9 0 359 age 2";
    /** 6 a DAY come to RIGHT 1, the youngest; below are RIGHT 0, which wants 6, and a STORE of 20. */
    private static final String BARTERED = "reach mouth 0 0 0 0;reach 0 6 6 6 6;right 0 6 0 359 age 1;"
        + "right 1 9 0 359 age 3;store 0 20 20 age 2";

    public static void main(String[] args) {
        coming();
        runningOut();
        canBe();
        byAge();
        wants();
        orders();
        ordersAreLimited();
        ordersByStores();
        ordersDoNothing();
        barters();
        bartersAreLimited();
        bartersByRights();
        bartersDoNothing();
        then();
        yearsEnd();
        shortAndShut();
        callers();
        futile();
        lookedAt();
        acts();
        shelves();
        answers();
        EDGE.end(Edge.DAY);
    }

    private static void says(String words) {
        EDGE.says(Edge.DAY, words);
    }

    private static void coming() {
        says("its INFLOW of the QUARTER times WET by 100, downwards");
        RiverCall x = Due.told("reach mouth 1 1 1 1;reach 0 1 1 1 1;reach 0 9999 9999 9999 9999 sink 9999");
        int[] wets = {0, 99, 100, 199, 200, 399, 400};
        int[] inflows = {0, 0, 1, 1, 2, 3, 4};
        for (int i = 0; i < wets.length; i++) {
            x.wet(wets[i]);
            EDGE.is("wet " + wets[i], x.flow(0, 0), inflows[i]);
        }
        EDGE.is("the most", x.flow(2, 0), 39996);
        x.wet(1);
        EDGE.is("a hundredth of 9999", x.flow(2, 0), 99);
        x.wet(199);
        EDGE.is("each by itself", x.flow(0, 2), 1 + 1 + (19898 - 9999));
        says("what runs BACK to it that DAY, and what runs out of all REACHES that run DOWN to it");
        RiverCall y = Due.told("reach mouth 1 1 1 1;reach 0 20 20 20 20;reach 0 300 300 300 300;reach 1 4000 4000 4000 4000;"
            + "reach mouth 50 50 50 50;right 4 8 0 0 age 1 back 0 100 2");
        EDGE.are("coming", "4321 4020 300 4000 50", y.flow(0, 2), y.flow(1, 2), y.flow(2, 2), y.flow(3, 2), y.flow(4, 2));
        EDGE.are("ahead of that day", "1 4321", y.days(1), y.flow(0, 2));
        EDGE.are("that day", "2 4329", y.days(1), y.flow(0, 2));
        EDGE.are("behind that day", "3 4321", y.days(1), y.flow(0, 2));
    }

    private static void runningOut() {
        says("what is left, less SINK (0 at least), runs out");
        String five = "reach mouth 5 5 5 5 sink ";
        EDGE.is("sink 0", Due.told(five + "0").flow(0, 4), 5);
        EDGE.is("sink 4", Due.told(five + "4").flow(0, 4), 1);
        EDGE.is("sink 5", Due.told(five + "5").flow(0, 4), 0);
        EDGE.is("sink 6", Due.told(five + "6").flow(0, 4), 0);
        EDGE.is("sink 9999", Due.told(five + "9999").flow(0, 4), 0);
        EDGE.is("left 3, sink 2", Due.told(five + "2;right 0 2 0 0 age 1").flow(0, 4), 1);
        EDGE.is("left 3, sink 3", Due.told(five + "3;right 0 2 0 0 age 1").flow(0, 4), 0);
        RiverCall x = Due.told(five + "6");
        x.days(1);
        EDGE.are("no more is lost than was there", "5 0 5", x.gone(0), x.gone(1), x.gone(2));
    }

    private static void canBe() {
        says("Takes CAN BE if nowhere more is taken than is there.");
        String five = "reach mouth 0 0 0 0;reach 0 5 5 5 5;";
        EDGE.is("less than is there", Due.told(five + "right 1 4 0 0 age 1").takes(0, 0), 4);
        EDGE.is("all that is there", Due.told(five + "right 1 5 0 0 age 1").takes(0, 0), 5);
        EDGE.is("no more than is there", Due.told(five + "right 1 6 0 0 age 1").takes(0, 0), 5);
        RiverCall x = Due.told(five + "right 0 3 0 0 age 1;right 1 9 0 0 age 2");
        EDGE.are("nor than is there below", "3 2", x.takes(0, 0), x.takes(1, 0));
        RiverCall y = Due.told("reach mouth 0 0 0 0;reach 0 0 0 0 0 sink 2;reach 1 9 9 9 9 sink 1;right 0 3 0 0 age 1;"
            + "right 2 9 0 0 age 2;right 1 9 0 0 age 3");
        EDGE.are("through two sinks", "3 3 0", y.takes(0, 0), y.takes(1, 0), y.takes(2, 0));
        RiverCall chain = Due.told(Due.chain("reach mouth 0 0 0 0", " 1 1 1 1") + ";right 0 5 0 359 age 1;right 11 1 0 359 age 9;"
            + "right 0 9 0 359 age 3;store 11 1 1 age 8");
        EDGE.are("through twelve: all comes to the oldest ones", "5 0 6 0",
            chain.takes(0, 0), chain.takes(1, 0), chain.takes(2, 0), chain.stored(0, 0));
        chain.demand(2, 5);
        EDGE.are("one is to spare, which the store takes", "5 0 5 1 0",
            chain.takes(0, 0), chain.takes(1, 0), chain.takes(2, 0), chain.stored(0, 0), chain.flow(0, 4));
        chain.days(1);
        EDGE.are("and the next day the last one", "5 1 5 0 0",
            chain.takes(0, 0), chain.takes(1, 0), chain.takes(2, 0), chain.stored(0, 0), chain.flow(0, 4));
        // 3 come to the one below whatever is done above: of 9 all can be taken.
        RiverCall z = Due.told("reach mouth 3 3 3 3;reach 0 9 9 9 9;right 0 3 0 0 age 1;right 1 9 0 0 age 2");
        EDGE.are("what comes from elsewhere", "3 9", z.takes(0, 0), z.takes(1, 0));
    }

    private static void byAge() {
        says("By AGE, the oldest first, RIGHTS and STORES: each takes the most that CAN BE, all older ones taking what they do, "
            + "no younger one anything, but no more than it WANTS");
        RiverCall x = Due.told("reach mouth 10 10 10 10;right 0 4 0 0 age 3;store 0 9 4 age 2;right 0 4 0 0 age 1");
        EDGE.are("4, 4, 2", "4 4 2", x.takes(1, 0), x.stored(0, 0), x.takes(0, 0));
        RiverCall y = Due.told("reach mouth 0 0 0 0;reach 0 10 10 10 10;right 0 6 0 0 age 1;right 1 9 0 0 age 2");
        EDGE.are("the older one below", "6 4", y.takes(0, 0), y.takes(1, 0));
        y.trade(0, 1);
        EDGE.are("the older one above", "1 9", y.takes(0, 0), y.takes(1, 0));
        RiverCall z = Due.told("reach mouth 10 10 10 10;right 0 9 0 0 age 2;right 0 1 0 0 age 1;right 0 1 0 0 age 9999");
        EDGE.are("one is left for the middle one's last", "9 1 0", z.takes(0, 0), z.takes(1, 0), z.takes(2, 0));
    }

    private static void wants() {
        says("a RIGHT in its SEASON its DEMAND, what is left of its VOLUME at most (else 0)");
        RiverCall x = Due.told("reach mouth 99 99 99 99;right 0 5 1 359 age 1 vol 12");
        EDGE.is("out of season", x.takes(0, 4), 0);
        x.days(1);
        EDGE.are("12 left", "12 5", x.right(0, 6), x.takes(0, 4));
        x.demand(0, 0);
        EDGE.are("demand 0", "0 0 0", x.takes(0, 4), x.takes(0, 0), x.calls(0));
        x.demand(0, 1);
        EDGE.is("demand 1", x.takes(0, 4), 1);
        x.demand(0, 5);
        x.days(1);
        EDGE.are("7 left", "7 5", x.right(0, 6), x.takes(0, 4));
        x.demand(0, 2);
        x.days(1);
        x.demand(0, 5);
        EDGE.are("5 left", "5 5", x.right(0, 6), x.takes(0, 4));
        x.demand(0, 1);
        x.days(1);
        x.demand(0, 5);
        EDGE.are("4 left", "4 4", x.right(0, 6), x.takes(0, 4));
        x.days(1);
        EDGE.are("none left", "0 0 0 0", x.right(0, 6), x.takes(0, 4), x.takes(0, 0), x.calls(0));
        says("a STORE its RATE, what it lacks to its SIZE at most");
        RiverCall y = Due.told("reach mouth 99 99 99 99;store 0 9 4 age 1");
        EDGE.are("lacks 9", "4 4", y.stored(0, 0), y.stored(0, 3));
        EDGE.are("lacks 5", "1 4 8", y.days(1), y.stored(0, 0), y.stored(0, 3));
        EDGE.are("lacks 1", "2 1 9", y.days(1), y.stored(0, 0), y.stored(0, 3));
        EDGE.are("is full", "3 0 9", y.days(1), y.stored(0, 0), y.stored(0, 3));
        EDGE.are("stays full", "4 0 9", y.days(1), y.stored(0, 0), y.stored(0, 3));
        RiverCall w = Due.told("reach mouth 9 9 9 9;reach mouth 8 8 8 8;reach mouth 7 7 7 7;store 0 99 99 age 1;store 1 99 99 age 2;"
            + "store 2 99 99 age 3");
        EDGE.are("each at its reach", "9 8 7", w.stored(0, 0), w.stored(1, 0), w.stored(2, 0));
        RiverCall z = Due.told("reach mouth 99 99 99 99;store 0 4 4 age 1;store 0 3 4 age 2");
        EDGE.are("lacks its rate, less", "4 3", z.stored(0, 0), z.stored(1, 0));
    }

    private static void orders() {
        says("a STORE with an ORDER lets out as much as it tells, what was in it as the DAY began at most");
        RiverCall x = Due.told(ORDERED);
        x.order(0, 0, 5);
        EDGE.are("empty, though 9 come in", "9 0 9", x.stored(0, 0), x.stored(0, 1), x.stored(0, 3));
        x.days(1);
        EDGE.are("5 of 9", "9 5 13", x.stored(0, 0), x.stored(0, 1), x.stored(0, 3));
        x.order(0, 0, 8);
        EDGE.is("8 of 9", x.stored(0, 1), 8);
        x.order(0, 0, 9);
        EDGE.are("9 of 9", "9 9 9", x.stored(0, 0), x.stored(0, 1), x.stored(0, 3));
        x.order(0, 0, 10);
        EDGE.is("10 of 9", x.stored(0, 1), 9);
        x.order(0, 0, 9999);
        EDGE.is("9999 of 9", x.stored(0, 1), 9);
        x.order(0, 0, 0);
        EDGE.are("no order", "9 0 18", x.stored(0, 0), x.stored(0, 1), x.stored(0, 3));
        Due.pass(x, 2);
        x.order(0, 0, 5);
        EDGE.are("a full one takes nothing though it lets out", "20 0 5 15",
            x.store(0, 4), x.stored(0, 0), x.stored(0, 1), x.stored(0, 3));
        says("so much more comes there to its REACH");
        EDGE.are("coming, taken, out", "14 0 14", x.flow(1, 2), x.flow(1, 3), x.flow(1, 4));
        x.order(0, 0, 0);
        EDGE.are("without", "9 0 9", x.flow(1, 2), x.flow(1, 3), x.flow(1, 4));
    }

    /** All at one REACH, 9 in each of two STORES, no INFLOW. */
    private static RiverCall twoStores(String reaches, int first, int second) {
        RiverCall x = Due.told(reaches + ";store " + first + " 9 9 age 1;store " + second + " 9 9 age 2;right 0 2 0 359 age 3;"
            + "right 0 9 0 359 age 4");
        x.days(1);
        x.wet(0);
        return x;
    }

    private static void ordersAreLimited() {
        says("the RIGHT of the ORDER takes the most more that CAN BE, all others taking what they do, but no more than was let out, "
            + "and than it WANTS in all");
        RiverCall x = twoStores("reach mouth 40 40 40 40", 0, 0);
        x.order(0, 0, 5);
        x.order(1, 1, 1);
        EDGE.are("5 let out, 2 wanted; of 4 no more than 1 let out", "2 1 3", x.takes(0, 2), x.takes(1, 2), x.flow(0, 4));
        x.order(1, 1, 9);
        EDGE.are("9 let out, 9 wanted", "2 9 3", x.takes(0, 2), x.takes(1, 2), x.flow(0, 4));
        x.demand(1, 8);
        EDGE.are("8 wanted", "2 8 4", x.takes(0, 2), x.takes(1, 2), x.flow(0, 4));
        x.demand(1, 0);
        EDGE.are("none wanted, yet let out", "0 9 12", x.takes(1, 2), x.stored(1, 1), x.flow(0, 4));
        RiverCall y = Due.told("reach mouth 0 0 0 0;reach 0 0 0 0 0 sink 4;reach 1 9 9 9 9;store 2 99 9 age 1;right 0 9 0 359 age 2");
        y.days(1);
        y.order(0, 0, 4);
        EDGE.are("all is lost on the way", "4 0", y.stored(0, 1), y.takes(0, 2));
        y.order(0, 0, 5);
        EDGE.are("1 is not", "5 1", y.stored(0, 1), y.takes(0, 2));
        RiverCall z = Due.told("reach mouth 8 8 8 8;store 0 9 2 age 1;right 0 9 0 359 age 2 vol 19");
        z.days(2);
        z.order(0, 0, 4);
        EDGE.are("6 by age, 1 left of the volume", "7 7 6 1 4",
            z.right(0, 6), z.takes(0, 4), z.takes(0, 1), z.takes(0, 2), z.stored(0, 1));
    }

    private static void ordersByStores() {
        says("ORDERS, by STORES");
        // 3 of STORE 0's 5 are left for RIGHT 1, to which STORE 1's 3 do not come; not so if that one comes first.
        RiverCall x = twoStores("reach mouth 40 40 40 40;reach 0 40 40 40 40 sink 5", 0, 1);
        x.order(1, 1, 3);
        x.order(0, 0, 5);
        EDGE.are("store 0 first", "2 3", x.takes(0, 2), x.takes(1, 2));
        RiverCall y = twoStores("reach mouth 40 40 40 40;reach 0 40 40 40 40 sink 5", 1, 0);
        y.order(1, 0, 5);
        y.order(0, 1, 3);
        EDGE.are("store 0 first, whose water is lost", "2 0", y.takes(0, 2), y.takes(1, 2));
    }

    private static void ordersDoNothing() {
        says("(An ORDER does nothing as long as the water does not run from the STORE's REACH to the RIGHT's.)");
        RiverCall x = Due.told("reach mouth 0 0 0 0;reach 0 9 9 9 9;reach mouth 0 0 0 0;reach 1 0 0 0 0;store 1 20 9 age 1;"
            + "right 0 9 0 359 age 2");
        x.days(1);
        EDGE.is("order", x.order(0, 0, 5), 1);
        EDGE.are("it runs", "5 5", x.stored(0, 1), x.takes(0, 2));
        EDGE.are("to another arm", "1 0 0 1", x.move(0, 2), x.stored(0, 1), x.takes(0, 2), x.count(8));
        EDGE.are("above the store", "1 0 0 1", x.move(0, 3), x.stored(0, 1), x.takes(0, 2), x.count(8));
        EDGE.are("to the store", "1 5 5 1", x.move(0, 1), x.stored(0, 1), x.takes(0, 2), x.count(8));
        EDGE.are("below it again", "1 5 5 1", x.move(0, 0), x.stored(0, 1), x.takes(0, 2), x.count(8));
    }

    /** 18 are in the STORE, and RIGHT 1 takes nothing by age. */
    private static RiverCall bartered() {
        RiverCall x = Due.told(BARTERED + ";wet 400");
        x.barter(1, 0);
        EDGE.are("an empty store, though 18 come in", "18 0 0", x.stored(0, 0), x.takes(1, 3), x.stored(0, 2));
        x.days(1);
        x.wet(100);
        return x;
    }

    private static void barters() {
        says("a RIGHT with a BARTER takes the most more E that CAN BE, the STORE of it letting out E at its REACH (besides (2)), "
            + "all others taking what they do");
        RiverCall x = bartered();
        EDGE.are("no more than is there", "0 6 6 6", x.takes(1, 1), x.takes(1, 3), x.stored(0, 2), x.takes(0, 0));
        EDGE.are("coming, taken, out", "6 6 0 6 6 0",
            x.flow(1, 2), x.flow(1, 3), x.flow(1, 4), x.flow(0, 2), x.flow(0, 3), x.flow(0, 4));
        x.barter(1, -1);
        EDGE.are("without", "0 0 0 6", x.takes(1, 1), x.takes(1, 3), x.stored(0, 2), x.takes(0, 0));
        // Of 10 one between them takes 4: 1 is left by age, as one at the STORE takes 5; for that the STORE can stand in.
        RiverCall y = Due.told("reach mouth 0 0 0 0;reach 0 0 0 0 0;reach 1 10 10 10 10;right 1 4 9 359 age 1;"
            + "right 2 9 9 359 age 4;right 0 5 9 359 age 3;store 0 20 20 age 2");
        y.days(9);
        y.barter(1, 0);
        EDGE.are("nor than is there between", "20 4 5 1 5 5",
            y.store(0, 4), y.takes(0, 0), y.takes(2, 0), y.takes(1, 1), y.takes(1, 3), y.stored(0, 2));
        EDGE.are("all others take what they do", "6 0 0", y.flow(2, 3), y.flow(1, 4), y.flow(0, 4));
    }

    private static void bartersAreLimited() {
        says("but no more than it WANTS in all, and than is left of what was in the STORE as the DAY began");
        RiverCall x = bartered();
        x.demand(1, 6);
        EDGE.is("wants 6", x.takes(1, 3), 6);
        x.demand(1, 5);
        EDGE.is("wants 5", x.takes(1, 3), 5);
        x.demand(1, 0);
        EDGE.is("wants none", x.takes(1, 3), 0);
        x.demand(1, 9);
        x.order(0, 0, 12);
        EDGE.are("6 are left", "12 6 6", x.stored(0, 1), x.stored(0, 2), x.takes(1, 3));
        x.order(0, 0, 13);
        EDGE.are("5 are left", "13 5 5", x.stored(0, 1), x.stored(0, 2), x.takes(1, 3));
        x.order(0, 0, 18);
        EDGE.are("none is left", "18 0 0", x.stored(0, 1), x.stored(0, 2), x.takes(1, 3));
        x.order(0, 0, 9999);
        EDGE.are("none is left of 18", "18 0 0 0", x.stored(0, 1), x.stored(0, 2), x.takes(1, 3), x.stored(0, 3));
    }

    private static void bartersByRights() {
        says("BARTERS, by RIGHTS");
        RiverCall x = Due.told("reach mouth 9 0 0 0;store 0 3 3 age 1;right 0 2 1 359 age 8;right 0 2 1 359 age 7");
        x.days(1);
        x.wet(0);
        x.barter(1, 0);
        x.barter(0, 0);
        EDGE.are("the first, though younger, then what is left", "2 1 3 0",
            x.takes(0, 3), x.takes(1, 3), x.stored(0, 2), x.stored(0, 3));
    }

    private static void bartersDoNothing() {
        says("(It does nothing as long as the water does not run from the RIGHT's REACH to the STORE's.");
        RiverCall x = Due.told("reach mouth 0 0 0 0;reach 0 9 9 9 9;reach mouth 9 9 9 9;reach 1 9 9 9 9;store 1 20 9 age 1;"
            + "right 3 9 0 359 age 2;wet 400");
        x.days(1);
        x.wet(50);
        EDGE.is("barter", x.barter(0, 0), 1);
        EDGE.are("it runs", "0 4 4", x.takes(0, 1), x.takes(0, 3), x.stored(0, 2));
        EDGE.are("to another arm", "1 0 0 1", x.move(0, 2), x.takes(0, 3), x.stored(0, 2), x.count(9));
        EDGE.are("below the store", "1 0 0 1", x.move(0, 0), x.takes(0, 3), x.stored(0, 2), x.count(9));
        EDGE.are("above it again", "1 4 4 1", x.move(0, 3), x.takes(0, 3), x.stored(0, 2), x.count(9));
        says("The water runs from a REACH to itself.)");
        EDGE.are("to the store", "1 9 9 1", x.move(0, 1), x.takes(0, 3), x.stored(0, 2), x.count(9));
        EDGE.are("a barter there", "1 1", x.barter(0, -1), x.barter(0, 0));
        EDGE.is("an order there", x.order(0, 0, 1), 1);
        EDGE.is("above", x.above(3), 8);
    }

    private static void then() {
        says("VOLUMES are less by what was taken, CONTENTS are what they are by all this; what runs BACK is on its way");
        RiverCall x = Due.told("reach mouth 20 20 20 20;store 0 20 9 age 1;right 0 9 0 359 age 2 vol 30 back 0 100 9;"
            + "right 0 1 0 359 age 3");
        x.days(2);
        x.wet(20);
        x.order(0, 0, 3);
        x.barter(0, 0);
        EDGE.are("by (1), (2), (3)", "2 3 4", x.takes(0, 1), x.takes(0, 2), x.takes(0, 3));
        EDGE.are("ahead of it", "12 18 18 18 2", x.right(0, 6), x.store(0, 4), x.right(0, 12), x.gone(6), x.right(1, 12));
        x.days(1);
        EDGE.are("behind it", "3 13 27 27 2", x.right(0, 6), x.store(0, 4), x.right(0, 12), x.gone(6), x.right(1, 12));
        EDGE.are("in 8 days", "9 0", x.coming(0, 8), x.coming(0, 9));
        EDGE.is("no volume", x.right(1, 6), -2);
    }

    private static void yearsEnd() {
        says("it is the next DAY (behind 359 DAY 0 again, VOLUMES as told)");
        RiverCall x = Due.told("reach mouth 9 9 9 9;right 0 4 358 359 age 1 vol 7 back 0 100 2;store 0 5 5 age 2;wet 101");
        x.order(0, 0, 1);
        x.barter(0, 0);
        EDGE.are("day 358", "358 7", Due.pass(x, 358), x.right(0, 6));
        EDGE.are("day 359", "359 3 3", x.days(1), x.right(0, 6), x.takes(0, 4));
        EDGE.are("day 0", "0 7 0 7", x.days(1), x.right(0, 6), x.takes(0, 4), x.right(0, 12));
        EDGE.are("all else stays", "101 1 1 4 3 360",
            x.count(4), x.count(8), x.count(9), x.coming(0, 0), x.coming(0, 1), x.gone(7));
        RiverCall y = Due.told("reach mouth 9 9 9 9;right 0 4 358 359 age 1 vol 7");
        Due.pass(y, 329);
        EDGE.are("days over the year's end", "29 7", y.days(60), y.right(0, 6));
        RiverCall z = Due.told("reach mouth 9 9 9 9;right 0 4 0 359 age 1 vol 7");
        Due.pass(z, 359);
        EDGE.are("its last day", "0 0", z.right(0, 6), z.takes(0, 0));
        z.days(60);
        EDGE.are("taken again in the new year", "59 0 14", z.count(3), z.right(0, 6), z.right(0, 12));
    }

    private static void shortAndShut() {
        says("SHORT: a RIGHT that takes less than it WANTS in all. It CALLS then.");
        String four = "reach mouth 4 4 4 4;right 0 ";
        EDGE.is("takes all it wants", Due.told(four + "4 0 0 age 1").calls(0), 0);
        EDGE.is("takes one less", Due.told(four + "5 0 0 age 1").calls(0), 1);
        EDGE.is("wants nothing", Due.told(four + "5 1 1 age 1").calls(0), 0);
        RiverCall x = bartered();
        x.demand(1, 6);
        EDGE.are("not short by (3)", "6 0", x.takes(1, 3), x.calls(0));
        x.demand(1, 7);
        EDGE.is("short for all (3)", x.calls(0), 2);
        x.barter(1, -1);
        x.wet(0);
        EDGE.is("both short", x.calls(0), 3);
        x.order(0, 0, 6);
        EDGE.is("not short by (2)", x.calls(0), 2);
        x.order(0, 0, 5);
        EDGE.is("short for all (2)", x.calls(0), 3);
        says("SHUT: how much more a RIGHT would take in (1), if none older were there.");
        RiverCall y = Due.told("reach mouth 9 9 9 9;right 0 4 0 0 age 1;store 0 9 4 age 2;right 0 8 0 0 age 3;right 0 9 0 0 age 4");
        EDGE.are("the oldest, by a right and a store, by all", "0 7 9", y.shut(0), y.shut(1), y.shut(2));
        EDGE.is("what was never there", Due.told("reach mouth 0 0 0 0;right 0 4 0 0 age 1;right 0 4 0 0 age 2").shut(1), 0);
        EDGE.is("wants nothing", Due.told("reach mouth 4 4 4 4;right 0 4 0 0 age 1;right 0 4 1 1 age 2").shut(1), 0);
        RiverCall z = bartered();
        EDGE.are("in (1) alone", "6 6", z.takes(1, 3), z.shut(1));
    }

    private static void callers() {
        says("CALLER of a RIGHT: the oldest RIGHT or STORE without which alone it would take more in (1).");
        RiverCall x = Due.told("reach mouth 5 5 5 5;right 0 5 0 0 age 1;right 0 5 0 0 age 2;right 0 5 0 0 age 3");
        EDGE.are("without one alone the next one has all", "-2 0 -2", x.caller(0), x.caller(1), x.caller(2));
        EDGE.is("shut all the same", x.shut(2), 5);
        RiverCall y = Due.told("reach mouth 9 9 9 9;right 0 3 0 0 age 5;right 0 3 0 0 age 4;store 0 9 3 age 3;right 0 3 0 0 age 6");
        EDGE.are("of three the oldest", "-2 -2 100", y.caller(0), y.caller(1), y.caller(2));
        y.demand(2, 0);
        EDGE.is("wants nothing", y.caller(2), -2);
        y.demand(2, 3);
        y.trade(1, 2);
        EDGE.are("as ages are now", "-2 100 -2", y.caller(0), y.caller(1), y.caller(2));
        RiverCall z = Due.told("reach mouth 9 9 9 9;right 0 1 0 0 age 1;right 0 9 0 0 age 2;right 0 1 0 0 age 3");
        EDGE.are("not the oldest, without which the next one has it", "0 1", z.caller(1), z.caller(2));
        RiverCall w = Due.told("reach mouth 9 9 9 9;reach mouth 9 9 9 9;right 1 9 0 0 age 1;store 0 9 1 age 2;store 0 9 8 age 3;"
            + "right 0 9 0 0 age 4");
        EDGE.is("of two stores the older", w.caller(1), 100);
        RiverCall v = Due.told("reach mouth 0 0 0 0;right 0 9 0 0 age 1;right 0 9 0 0 age 2");
        EDGE.is("no water", v.caller(1), -2);
    }

    private static void futile() {
        says("FUTILE: a CALL on a younger RIGHT that takes something in (1), at a REACH from which the water runs to the REACH of "
            + "the one that CALLS (or at that one).");
        RiverCall x = Due.told("reach mouth 0 0 0 0;reach 0 5 5 5 5 sink 9;reach mouth 5 5 5 5;right 0 4 0 359 age 4;"
            + "right 1 1 0 359 age 9;right 1 1 0 359 age 3;right 2 1 0 359 age 8;right 1 1 0 359 age 5");
        EDGE.is("calls", x.calls(0), 1);
        EDGE.are("a younger one, an older one, one on another arm, the next younger one", "1 0 0 1",
            x.futile(0, 1), x.futile(0, 2), x.futile(0, 3), x.futile(0, 4));
        EDGE.are("those that do not call", "0 0", x.futile(1, 0), x.futile(2, 1));
        x.demand(1, 0);
        x.demand(4, 0);
        EDGE.are("they take nothing", "0 0 0", x.futile(0, 1), x.futile(0, 4), x.calls(1));
        RiverCall y = Due.told("reach mouth 0 0 0 0;reach 0 5 5 5 5 sink 9;right 0 4 0 359 age 2;store 1 99 5 age 1;"
            + "right 1 2 0 359 age 3");
        y.days(1);
        y.order(0, 1, 2);
        EDGE.are("takes by (2) alone", "0 2 0", y.takes(1, 1), y.takes(1, 2), y.futile(0, 1));
        y.order(0, 1, 0);
        y.barter(1, 0);
        EDGE.are("takes by (3) alone", "0 2 0", y.takes(1, 1), y.takes(1, 3), y.futile(0, 1));
        RiverCall z = Due.told("reach mouth 5 5 5 5;reach 0 0 0 0 0;right 1 4 0 359 age 2;right 0 2 0 359 age 3");
        EDGE.are("one below", "1 0", z.calls(0), z.futile(0, 1));
        RiverCall w = Due.told("reach mouth 3 3 3 3;right 0 4 0 359 age 2;right 0 2 0 359 age 3");
        EDGE.are("at that one nothing is taken", "3 0 0", w.calls(0), w.takes(1, 1), w.futile(0, 1));
    }

    private static void lookedAt() {
        says("What is LOOKED AT is TODAY's, as it is now; nothing is changed.");
        RiverCall x = bartered();
        x.order(0, 0, 1);
        String before = Due.whole(x);
        for (int what = 0; what <= 4; what++) {
            x.flow(0, what);
            x.takes(1, what);
            x.stored(0, what);
        }
        x.shut(1);
        x.caller(1);
        x.calls(0);
        x.calls(1);
        x.futile(0, 1);
        x.needs(1);
        x.thirst(0);
        EDGE.is("all", Due.whole(x), before);
        EDGE.are("as wet as it is", "6 7", x.flow(1, 0), wetFlow(x, 120));
        x.undo();
        EDGE.is("as it was", x.flow(1, 0), 6);
    }

    private static int wetFlow(RiverCall x, int wet) {
        x.wet(wet);
        return x.flow(1, 0);
    }

    private static void acts() {
        says("ACTS: all from days() to move().");
        RiverCall x = Due.told("reach mouth 0 0 0 0;reach 0 6 6 6 6;right 0 6 0 359 age 1;right 1 9 0 359 age 3;store 0 20 20 age 2");
        EDGE.are("days", "1 1", x.days(1), x.count(5));
        EDGE.are("wet", "100 2", x.wet(50), x.count(5));
        EDGE.are("demand", "9 3", x.demand(1, 8), x.count(5));
        EDGE.are("order", "1 4", x.order(0, 0, 1), x.count(5));
        EDGE.are("barter", "1 5", x.barter(0, 0), x.count(5));
        EDGE.are("trade", "1 6", x.trade(0, 1), x.count(5));
        EDGE.are("move", "1 7", x.move(0, 1), x.count(5));
        x.feed(0, 0, 0, 0, 0);
        x.end(3);
        x.keep(0);
        x.movable(0);
        x.swap(0, 1, 9, 0);
        EDGE.is("no others", x.count(5), 7);
        x.days(0);
        x.wet(50);
        x.wet(401);
        x.demand(1, 8);
        x.order(0, 0, 1);
        x.order(0, 5, 1);
        x.barter(0, 0);
        x.trade(0, 0);
        x.move(0, 1);
        x.move(0, 7);
        EDGE.is("none that did nothing", x.count(5), 7);
        says("The last 10 can be UNDONE, the last first.");
        RiverCall y = new RiverCall();
        for (int i = 1; i <= 11; i++) {
            y.wet(200 + i);
            EDGE.is("acts", y.count(5), Math.min(i, 10));
        }
        for (int i = 10; i >= 1; i--) {
            EDGE.are("undone", (i - 1) + " " + (200 + i), y.undo(), y.count(4));
        }
        EDGE.are("no more than 10", "-1 201 0", y.undo(), y.count(4), y.count(5));
        for (int i = 1; i <= 25; i++) {
            y.wet(300 + i);
        }
        EDGE.are("the last of many", "9 324 8 323", y.undo(), y.count(4), y.undo(), y.count(4));
        y.wet(5);
        EDGE.are("one more", "9 8 323", y.count(5), y.undo(), y.count(4));
    }

    private static void shelves() {
        says("SHELVES 0, 1: all but TAPE, SHELVES.");
        RiverCall x = Due.told(BARTERED);
        x.days(3);
        x.feed(0, 0, 0, 0, 0);
        EDGE.are("keep", "3 1", x.keep(0), x.count(7));
        String before = Due.whole(x);
        x.feed(0, 0, 0, 0, 0);
        x.days(4);
        EDGE.are("keep", "7 3", x.keep(1), x.count(7));
        x.end(39);
        EDGE.are("back: the tape and the shelves as they are", "3 39 3", x.back(0), x.count(6), x.count(7));
        EDGE.is("all else as it was", Due.whole(x), before);
        EDGE.is("the other shelf", x.back(1), 7);
    }

    private static void answers() {
        says("The k-th: from 0 on.");
        RiverCall x = Due.told("reach mouth 1 1 1 1;right 0 2 0 0 age 5");
        EDGE.are("letters", "114 101", x.letter(0), x.letter(1));
        EDGE.are("aged", "0 -2", x.aged(0), x.aged(1));
        says("Where NONE and another answer fit, it is NONE; -2 ahead of -3.");
        RiverCall y = Due.told("reach mouth 1 1 1 1;reach 0 1 1 1 1;right 0 2 0 359 age 5;store 1 9 9 age 6;right 1 2 0 359 age 7");
        EDGE.are("NONE ahead of -2", "-1 -1 -1 -1 -1", new RiverCall().worst(0), new RiverCall().back(2), y.order(0, 2, 0),
            y.order(0, -1, 0), y.barter(2, -1));
        EDGE.are("NONE ahead of -3", "-1 -1", y.order(0, 0, 10000), y.barter(0, 1));
        EDGE.are("NONE ahead of how many", "-1 -1", new RiverCall().aged(-2), new RiverCall().letter(-2));
        EDGE.are("an order and a barter", "1 1", y.order(0, 0, 4), y.barter(1, 0));
        EDGE.are("they move away", "1 1", y.demand(1, 0) == 2 ? 1 : 0, y.move(1, 0));
        EDGE.are("the barter: so, though the water does not run", "-2 1 -3", y.barter(1, 0), y.barter(1, -1), y.barter(1, 0));
        RiverCall z = Due.told("reach mouth 1 1 1 1;reach mouth 1 1 1 1;right 0 2 0 359 age 5;store 0 9 9 age 6");
        EDGE.are("an order, moved away", "1 1", z.order(0, 0, 4), z.move(0, 1));
        EDGE.are("the order: so, though the water does not run", "-2 -3", z.order(0, 0, 4), z.order(0, 0, 5));
    }
}
