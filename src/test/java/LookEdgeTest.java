/** Promises 15 to 24, 30, 32 to 36 and 44, sentence by sentence: what was told, what is so TODAY, what is gone. */
public final class LookEdgeTest {
    private static final Edge EDGE = new Edge();
    private static final int LEAST = Integer.MIN_VALUE;
    private static final int MOST = Integer.MAX_VALUE;
    private static final String ONE = "reach mouth 9 9 9 9;right 0 5 0 359 age 5;store 0 9 2 age 6";
    /** 18 are in a STORE of 20, 6 a DAY come; RIGHT 0 has a BARTER, RIGHT 1 an ORDER of 2. */
    private static final String BOTH = "reach mouth 0 0 0 0;reach 0 6 6 6 6;right 1 9 1 359 age 3;right 0 8 1 359 age 1;store 0 20 18 age 2";

    public static void main(String[] args) {
        reach();
        right();
        rightWithout();
        store();
        flow();
        takes();
        stored();
        shut();
        caller();
        calls();
        futile();
        aged();
        gone();
        coming();
        above();
        thirst();
        letter();
        letterParts();
        count();
        EDGE.end(Edge.promise(15), Edge.promise(16), Edge.promise(17), Edge.promise(18), Edge.promise(19), Edge.promise(20),
            Edge.promise(21), Edge.promise(22), Edge.promise(23), Edge.promise(24), Edge.promise(30), Edge.promise(32),
            Edge.promise(33), Edge.promise(34), Edge.promise(35), Edge.promise(36), Edge.promise(44));
    }

    private static void says(int promise, String words) {
        EDGE.says(Edge.promise(promise), words);
    }

    private static RiverCall both() {
        RiverCall x = Due.told(BOTH + ";wet 300");
        x.days(1);
        x.wet(100);
        x.barter(0, 0);
        x.order(0, 1, 2);
        return x;
    }

    private static void reach() {
        says(15, "0: where it runs DOWN (-2: to the MOUTH), 1: SINK, 2: how many run DOWN to it");
        RiverCall x = Due.told("reach mouth 1 2 3 4;reach 0 5 6 7 8 sink 9;reach 0 1 1 1 1;reach 1 9999 0 0 9999 sink 9999;"
            + "reach mouth 0 0 0 0");
        EDGE.are("down", "-2 0 0 1 -2", x.reach(0, 0), x.reach(1, 0), x.reach(2, 0), x.reach(3, 0), x.reach(4, 0));
        EDGE.are("sink", "0 9 0 9999 0", x.reach(0, 1), x.reach(1, 1), x.reach(2, 1), x.reach(3, 1), x.reach(4, 1));
        EDGE.are("how many", "2 1 0 0 0", x.reach(0, 2), x.reach(1, 2), x.reach(2, 2), x.reach(3, 2), x.reach(4, 2));
        says(15, "3: how many REACHES there are from it to the MOUTH (itself, too)");
        EDGE.are("to the mouth", "1 2 2 3 1", x.reach(0, 3), x.reach(1, 3), x.reach(2, 3), x.reach(3, 3), x.reach(4, 3));
        RiverCall y = Due.told(Due.chain("reach mouth 1 1 1 1", " 1 1 1 1"));
        EDGE.are("of twelve", "12 11 1", y.reach(11, 3), y.reach(10, 3), y.reach(0, 3));
        EDGE.are("the last of twelve", "10 0 1", y.reach(11, 0), y.reach(11, 2), y.reach(11, 13));
        says(15, "10 to 13: INFLOW in QUARTER 0 to 3. NONE without these.");
        EDGE.are("inflows", "1 2 3 4", x.reach(0, 10), x.reach(0, 11), x.reach(0, 12), x.reach(0, 13));
        EDGE.are("inflows", "5 6 7 8", x.reach(1, 10), x.reach(1, 11), x.reach(1, 12), x.reach(1, 13));
        EDGE.are("inflows", "9999 0 0 9999", x.reach(3, 10), x.reach(3, 11), x.reach(3, 12), x.reach(3, 13));
        x.wet(50);
        EDGE.is("as told, however wet", x.reach(3, 10), 9999);
        EDGE.are("reaches", "-1 -1 -1 -1 -1", x.reach(5, 0), x.reach(-1, 0), x.reach(MOST, 0), x.reach(LEAST, 0), x.reach(12, 10));
        EDGE.are("whats", "-1 -1 -1 -1 -1 -1", x.reach(0, -1), x.reach(0, 4), x.reach(0, 9), x.reach(0, 14), x.reach(0, MOST),
            x.reach(0, LEAST));
        EDGE.are("between", "-1 -1 -1 -1", x.reach(0, 5), x.reach(0, 6), x.reach(0, 7), x.reach(0, 8));
    }

    private static String row(RiverCall x, int right) {
        StringBuilder all = new StringBuilder();
        for (int what = 0; what <= 12; what++) {
            all.append(what == 0 ? "" : " ").append(x.right(right, what));
        }
        return all.toString();
    }

    private static void right() {
        says(16, "Of a RIGHT what 0: REACH, 1: RATE, 2, 3: its SEASON, 4: AGE, 5: VOLUME (-2: none), 6: what is left of it (-2), "
            + "7: REACH to which it runs BACK (-2: nothing does), 8: hundredths (0), 9: DELAY (0), 10: DEMAND, 11: its BARTER's "
            + "STORE (-2), 12: all it took.");
        RiverCall x = Due.told("reach mouth 99 99 99 99;reach 0 1 1 1 1;right 1 9999 3 357 age 0 vol 999999 back 0 100 30;"
            + "right 0 1 0 0 age 9999 vol 1 back 1 1 1;right 0 7 359 359 age 5;store 0 9 9 age 6");
        EDGE.is("the most", row(x, 0), "1 9999 3 357 0 999999 999999 0 100 30 9999 -2 0");
        EDGE.is("the least", row(x, 1), "0 1 0 0 9999 1 1 1 1 1 1 -2 0");
        EDGE.is("without", row(x, 2), "0 7 359 359 5 -2 -2 -2 0 0 7 -2 0");
        x.days(1);
        EDGE.is("took one", row(x, 1), "0 1 0 0 9999 1 0 1 1 1 1 -2 1");
        x.demand(2, 0);
        x.barter(2, 0);
        x.trade(1, 2);
        x.move(2, 1);
        EDGE.is("as it is now", row(x, 2), "1 7 359 359 9999 -2 -2 -2 0 0 0 0 0");
        Due.pass(x, 359);
        EDGE.are("all it took, not in this year alone", "1 1 357", x.right(1, 6), x.right(1, 12), x.right(0, 12) + 2);
    }

    private static void rightWithout() {
        says(16, "NONE without these.");
        RiverCall x = Due.told(ONE);
        EDGE.are("rights", "-1 -1 -1 -1", x.right(1, 0), x.right(-1, 0), x.right(MOST, 0), x.right(LEAST, 0));
        EDGE.are("whats", "-1 -1 -1 -1", x.right(0, 13), x.right(0, -1), x.right(0, MOST), x.right(0, LEAST));
        EDGE.is("a store is none", x.right(100, 0), -1);
        RiverCall y = Due.told("reach mouth 9 9 9 9;" + Due.many("right 0 5 0 0 age #", 14));
        EDGE.are("the last of fourteen", "13 -1", y.right(13, 4), y.right(14, 4));
    }

    private static void store() {
        says(17, "Of a STORE what 0: REACH, 1: SIZE, 2: RATE, 3: AGE, 4: CONTENT, 5: the RIGHT of its ORDER (-2), 6: how much (0).");
        RiverCall x = Due.told("reach mouth 9 9 9 9;reach 0 1 1 1 1;right 0 5 0 359 age 5;store 1 999999 9999 age 9999;store 0 1 1 age 0");
        EDGE.are("the most", "1 999999 9999 9999 0 -2 0", x.store(0, 0), x.store(0, 1), x.store(0, 2), x.store(0, 3), x.store(0, 4),
            x.store(0, 5), x.store(0, 6));
        EDGE.are("the least", "0 1 1 0 0 -2 0", x.store(1, 0), x.store(1, 1), x.store(1, 2), x.store(1, 3), x.store(1, 4),
            x.store(1, 5), x.store(1, 6));
        x.days(1);
        x.order(0, 0, 9999);
        EDGE.are("content, order", "1 1 0 9999 -2 0",
            x.store(0, 4), x.store(1, 4), x.store(0, 5), x.store(0, 6), x.store(1, 5), x.store(1, 6));
        says(17, "NONE without these.");
        EDGE.are("stores", "-1 -1 -1 -1", x.store(2, 0), x.store(-1, 0), x.store(MOST, 0), x.store(LEAST, 0));
        EDGE.are("whats", "-1 -1 -1 -1", x.store(0, 7), x.store(0, -1), x.store(0, MOST), x.store(0, LEAST));
        EDGE.is("not as it is told elsewhere", x.store(100, 0), -1);
        RiverCall y = Due.told("reach mouth 9 9 9 9;" + Due.many("store 0 5 1 age #", 4));
        EDGE.are("the last of four", "3 -1", y.store(3, 3), y.store(4, 3));
    }

    private static void flow() {
        says(18, "0: INFLOW by WET, 1: what runs BACK to it, 2: COMING (with what a STORE lets out there), 3: taken, 4: what runs out.");
        RiverCall x = both();
        EDGE.are("the upper one", "6 0 6 6 0", x.flow(1, 0), x.flow(1, 1), x.flow(1, 2), x.flow(1, 3), x.flow(1, 4));
        EDGE.are("with 2 by (2), 6 by (3)", "0 0 8 8 0", x.flow(0, 0), x.flow(0, 1), x.flow(0, 2), x.flow(0, 3), x.flow(0, 4));
        x.order(0, 1, 5);
        EDGE.are("with 5 by (2), 6 by (3)", "0 0 11 8 3", x.flow(0, 0), x.flow(0, 1), x.flow(0, 2), x.flow(0, 3), x.flow(0, 4));
        RiverCall y = Due.told("reach mouth 7 7 7 7 sink 1;right 0 2 0 0 age 1 back 0 100 1;store 0 9 3 age 2");
        EDGE.are("a right and a store", "7 0 7 5 1", y.flow(0, 0), y.flow(0, 1), y.flow(0, 2), y.flow(0, 3), y.flow(0, 4));
        y.days(1);
        EDGE.are("ran back", "7 2 9 3 5", y.flow(0, 0), y.flow(0, 1), y.flow(0, 2), y.flow(0, 3), y.flow(0, 4));
        says(18, "NONE without these.");
        EDGE.are("reaches", "-1 -1 -1 -1", y.flow(1, 0), y.flow(-1, 0), y.flow(MOST, 0), y.flow(LEAST, 0));
        EDGE.are("whats", "-1 -1 -1 -1", y.flow(0, 5), y.flow(0, -1), y.flow(0, MOST), y.flow(0, LEAST));
    }

    private static void takes() {
        says(19, "what a RIGHT takes, what 0: in all, 1: by (1), 2: by (2), 3: by (3), 4: what it WANTS.");
        RiverCall x = both();
        EDGE.are("by barter", "6 0 0 6 9", x.takes(0, 0), x.takes(0, 1), x.takes(0, 2), x.takes(0, 3), x.takes(0, 4));
        EDGE.are("by order", "8 6 2 0 8", x.takes(1, 0), x.takes(1, 1), x.takes(1, 2), x.takes(1, 3), x.takes(1, 4));
        x.barter(1, 0);
        x.wet(50);
        EDGE.are("by all", "8 3 2 3 8", x.takes(1, 0), x.takes(1, 1), x.takes(1, 2), x.takes(1, 3), x.takes(1, 4));
        says(19, "NONE without these.");
        EDGE.are("rights", "-1 -1 -1 -1", x.takes(2, 0), x.takes(-1, 0), x.takes(MOST, 0), x.takes(LEAST, 0));
        EDGE.are("whats", "-1 -1 -1 -1", x.takes(0, 5), x.takes(0, -1), x.takes(0, MOST), x.takes(0, LEAST));
        EDGE.is("a store is none", x.takes(100, 0), -1);
    }

    private static void stored() {
        says(20, "of a STORE what 0: what it takes, 1: lets out by (2), 2: by (3), 3: CONTENT behind the DAY.");
        RiverCall x = both();
        EDGE.are("18 in it", "18 0 2 6 10", x.store(0, 4), x.stored(0, 0), x.stored(0, 1), x.stored(0, 2), x.stored(0, 3));
        x.wet(200);
        EDGE.are("more comes", "2 2 7 11", x.stored(0, 0), x.stored(0, 1), x.stored(0, 2), x.stored(0, 3));
        EDGE.are("the next day", "2 11", x.days(1), x.store(0, 4));
        says(20, "NONE without these.");
        EDGE.are("stores", "-1 -1 -1 -1", x.stored(1, 0), x.stored(-1, 0), x.stored(MOST, 0), x.stored(LEAST, 0));
        EDGE.are("whats", "-1 -1 -1 -1", x.stored(0, 4), x.stored(0, -1), x.stored(0, MOST), x.stored(0, LEAST));
        EDGE.is("not as it is told elsewhere", x.stored(100, 0), -1);
    }

    private static void shut() {
        says(21, "SHUT of a RIGHT TODAY; NONE without it.");
        RiverCall x = Due.told("reach mouth 9 9 9 9;right 0 9 0 0 age 1;right 0 9 0 359 age 2");
        EDGE.are("today", "0 9", x.shut(0), x.shut(1));
        x.days(1);
        EDGE.are("tomorrow", "0 0", x.shut(0), x.shut(1));
        EDGE.are("rights", "-1 -1 -1 -1 -1", x.shut(2), x.shut(-1), x.shut(100), x.shut(MOST), x.shut(LEAST));
    }

    private static void caller() {
        says(22, "CALLER of a RIGHT TODAY: a RIGHT, or 100 and the STORE; -2: none; NONE without it.");
        RiverCall x = Due.told("reach mouth 9 9 9 9;" + Due.many("store 0 9 1 age #", 3) + ";store 0 9 9 age 5;right 0 1 0 0 age 9;"
            + "right 0 9 0 0 age 3");
        EDGE.are("stores 0 and 1", "-2 100", x.caller(0), x.caller(1));
        RiverCall y = Due.told("reach mouth 9 9 9 9;" + Due.many("store 0 9 1 age 1#", 3) + ";store 0 9 9 age 5;right 0 1 0 0 age 9;"
            + "right 0 9 0 0 age 3");
        EDGE.are("without the right alone store 3 has all", "-2 -2", y.caller(0), y.caller(1));
        y.demand(1, 0);
        EDGE.is("store 3", y.caller(0), 103);
        EDGE.are("rights", "-1 -1 -1 -1 -1", x.caller(2), x.caller(-1), x.caller(100), x.caller(MOST), x.caller(LEAST));
        EDGE.is("a right", Due.told("reach mouth 9 9 9 9;right 0 1 0 0 age 9;right 0 9 0 0 age 3").caller(0), 1);
        RiverCall z = Due.told("reach mouth 9 9 9 9;right 0 9 0 0 age 2;right 0 9 1 1 age 1;right 0 9 1 1 age 3");
        EDGE.are("today", "-2 -2 -2", z.caller(0), z.caller(1), z.caller(2));
        z.days(1);
        EDGE.are("tomorrow", "-2 -2 1", z.caller(0), z.caller(1), z.caller(2));
    }

    private static void calls() {
        says(23, "RIGHTS, as bits, that CALL TODAY (what 0), whose CALL is FUTILE on some other one (1). NONE for others.");
        RiverCall x = Due.told("reach mouth 0 0 0 0;" + Due.many("right 0 5 0 0 age #", 14));
        EDGE.are("all fourteen", "16383 0", x.calls(0), x.calls(1));
        x.demand(0, 0);
        x.demand(13, 0);
        EDGE.is("but the first and the last", x.calls(0), 8190);
        RiverCall y = Due.told("reach mouth 0 0 0 0;reach 0 5 5 5 5 sink 9;" + Due.many("right 1 1 0 359 age 9#", 3) + ";"
            + Due.many("right 0 5 0 359 age 1#", 2));
        EDGE.are("two, futile on the first three", "24 24", y.calls(0), y.calls(1));
        y.demand(0, 0);
        y.demand(1, 0);
        EDGE.are("on the last of them", "24 24", y.calls(0), y.calls(1));
        y.demand(2, 0);
        EDGE.are("on none", "24 0", y.calls(0), y.calls(1));
        y.demand(0, 1);
        EDGE.are("on the first of them", "24 24", y.calls(0), y.calls(1));
        EDGE.are("others", "-1 -1 -1 -1", y.calls(2), y.calls(-1), y.calls(MOST), y.calls(LEAST));
    }

    private static void futile() {
        says(24, "(1, 0; 0 if it does not CALL); NONE without these (unlike ones).");
        RiverCall x = Due.told("reach mouth 0 0 0 0;reach 0 5 5 5 5 sink 9;right 0 4 0 359 age 1;right 1 3 0 359 age 2");
        EDGE.are("it is, the other does not call", "1 0", x.futile(0, 1), x.futile(1, 0));
        x.demand(0, 0);
        EDGE.are("it does not call", "0 0", x.calls(0), x.futile(0, 1));
        EDGE.are("unlike ones", "-1 -1", x.futile(0, 0), x.futile(1, 1));
        EDGE.are("rights", "-1 -1 -1 -1", x.futile(0, 2), x.futile(2, 0), x.futile(-1, 0), x.futile(0, -1));
        EDGE.are("far ones", "-1 -1 -1 -1", x.futile(0, MOST), x.futile(MOST, 0), x.futile(LEAST, 0), x.futile(0, LEAST));
    }

    private static void aged() {
        says(30, "the k-th (a RIGHT, or 100 and the STORE); k NONE: how many; -2: there are not so many; NONE for k below NONE.");
        RiverCall x = Due.told("reach mouth 9 9 9 9;right 0 1 0 0 age 7;store 0 1 1 age 0;right 0 1 0 0 age 9999;store 0 1 1 age 8");
        EDGE.are("by age", "100 0 101 1", x.aged(0), x.aged(1), x.aged(2), x.aged(3));
        EDGE.are("how many, too many", "4 -2 -2", x.aged(-1), x.aged(4), x.aged(MOST));
        EDGE.are("below", "-1 -1", x.aged(-2), x.aged(LEAST));
        x.trade(0, 1);
        EDGE.are("as ages are now", "100 1 101 0", x.aged(0), x.aged(1), x.aged(2), x.aged(3));
        RiverCall none = Due.told("reach mouth 9 9 9 9");
        EDGE.are("of none", "0 -2 -1", none.aged(-1), none.aged(0), none.aged(-2));
        RiverCall most = Due.told("reach mouth 9 9 9 9;" + Due.many("store 0 5 1 age 9#", 4) + ";" + Due.many("right 0 5 0 0 age #", 14));
        EDGE.are("of eighteen", "18 0 13 100 103 -2",
            most.aged(-1), most.aged(0), most.aged(13), most.aged(14), most.aged(17), most.aged(18));
    }

    private static void gone() {
        says(32, "0: all INFLOWS, 1: out of the MOUTH, 2: in SINKS, 3: taken by RIGHTS, 4: run BACK, 5: in STORES now, "
            + "6: on its way now, 7: DAYS gone by.");
        RiverCall x = Due.told("reach mouth 20 20 20 20 sink 3;reach mouth 5 5 5 5;right 0 4 0 359 age 1 back 1 50 2;"
            + "store 0 9 6 age 2;right 1 1 0 359 age 3");
        EDGE.are("none", "0 0 0 0 0 0 0 0", x.gone(0), x.gone(1), x.gone(2), x.gone(3), x.gone(4), x.gone(5), x.gone(6), x.gone(7));
        x.days(1);
        EDGE.are("a day", "25 11 3 5 0 6 2 1",
            x.gone(0), x.gone(1), x.gone(2), x.gone(3), x.gone(4), x.gone(5), x.gone(6), x.gone(7));
        x.days(1);
        EDGE.are("two days", "50 25 6 10 0 9 4 2",
            x.gone(0), x.gone(1), x.gone(2), x.gone(3), x.gone(4), x.gone(5), x.gone(6), x.gone(7));
        x.days(1);
        EDGE.are("three days", "75 44 9 15 2 9 4 3",
            x.gone(0), x.gone(1), x.gone(2), x.gone(3), x.gone(4), x.gone(5), x.gone(6), x.gone(7));
        x.undo();
        EDGE.are("undone", "50 2", x.gone(0), x.gone(7));
        RiverCall four = Due.told("reach mouth 9 9 9 9;" + Due.many("store 0 5 2 age #", 4));
        EDGE.are("four stores", "1 8 2", four.days(1), four.gone(5), four.store(3, 4));
        says(32, "Long.MIN_VALUE for others.");
        long no = Long.MIN_VALUE;
        EDGE.are("others", no + " " + no + " " + no + " " + no, x.gone(8), x.gone(-1), x.gone(MOST), x.gone(LEAST));
        says(32, "(0 and 4 are 1, 2, 3, 5 together.)");
        RiverCall y = both();
        Due.pass(y, 200);
        EDGE.is("together", y.gone(0) + y.gone(4), y.gone(1) + y.gone(2) + y.gone(3) + y.gone(5));
        EDGE.is("together", x.gone(0) + x.gone(4), x.gone(1) + x.gone(2) + x.gone(3) + x.gone(5));
        Due.pass(x, 720);
        EDGE.is("together", x.gone(0) + x.gone(4), x.gone(1) + x.gone(2) + x.gone(3) + x.gone(5));
        RiverCall z = Due.told(Due.many("reach mouth 9999 9999 9999 9999", 12) + ";wet 400");
        Due.pass(z, 60 * 100);
        EDGE.are("beyond an int", "2879712000 2879712000", z.gone(0), z.gone(1));
    }

    private static void coming() {
        says(33, "What comes BACK to a REACH in so many DAYS (0 TODAY, to 29); NONE without these.");
        RiverCall x = Due.told("reach mouth 9 9 9 9;reach mouth 0 0 0 0;right 0 2 0 0 age 1 back 1 100 1;right 0 3 0 0 age 2 back 1 100 30;"
            + "right 0 4 0 0 age 3 back 0 100 30");
        EDGE.are("nothing yet", "0 0 0", x.coming(1, 0), x.coming(1, 29), x.coming(0, 29));
        x.days(1);
        EDGE.are("today", "2 0", x.coming(1, 0), x.coming(0, 0));
        EDGE.are("in 28, in 29", "0 3 0 4", x.coming(1, 28), x.coming(1, 29), x.coming(0, 28), x.coming(0, 29));
        EDGE.is("as it flows", x.flow(1, 1), 2);
        x.days(1);
        EDGE.are("the next day", "0 0 3 0", x.coming(1, 0), x.coming(1, 29), x.coming(1, 28), x.coming(1, 27));
        x.days(28);
        EDGE.are("on its day", "3 4 0", x.coming(1, 0), x.coming(0, 0), x.coming(1, 1));
        EDGE.are("days", "-1 -1 -1 -1", x.coming(0, 30), x.coming(0, -1), x.coming(0, MOST), x.coming(0, LEAST));
        EDGE.are("reaches", "-1 -1 -1 -1", x.coming(2, 0), x.coming(-1, 0), x.coming(MOST, 0), x.coming(LEAST, 0));
    }

    private static void above() {
        says(34, "REACHES, as bits, from which the water runs to one (itself, too); NONE without it.");
        RiverCall x = Due.told("reach mouth 1 1 1 1;reach 0 1 1 1 1;reach 1 1 1 1 1;reach 0 1 1 1 1;" + Due.many("reach mouth 1 1 1 1", 8));
        EDGE.are("bits", "15 6 4 8 16 2048", x.above(0), x.above(1), x.above(2), x.above(3), x.above(4), x.above(11));
        EDGE.is("twelve", Due.told(Due.chain("reach mouth 1 1 1 1", " 1 1 1 1")).above(0), 4095);
        EDGE.are("none", "-1 -1 -1 -1", x.above(12), x.above(-1), x.above(MOST), x.above(LEAST));
    }

    private static void thirst() {
        says(35, "The greatest INFLOW more (0 to 9999) at a REACH TODAY with which, all takes being as they are, no more would run out "
            + "of the MOUTH; NONE without it.");
        RiverCall x = Due.told("reach mouth 5 5 5 5 sink 4;reach 0 2 2 2 2 sink 5;reach 1 3 3 3 3 sink 3;reach mouth 6 6 6 6 sink 6;"
            + "reach mouth 5 5 5 5 sink 6");
        EDGE.are("runs out, 3 are lost above, just none left, just none lacking, one lacking", "0 3 3 0 1",
            x.thirst(0), x.thirst(1), x.thirst(2), x.thirst(3), x.thirst(4));
        EDGE.are("none without it", "-1 -1 -1 -1", x.thirst(5), x.thirst(-1), x.thirst(MOST), x.thirst(LEAST));
        RiverCall y = Due.told("reach mouth 0 0 0 0 sink 9999;reach 0 0 0 0 0 sink 1;reach mouth 1 1 1 1 sink 9999;"
            + "reach 2 0 0 0 0 sink 1;reach mouth 0 0 0 0");
        EDGE.are("9999, more than that, 9998, 9999 together, no sink", "9999 9999 9998 9999 0",
            y.thirst(0), y.thirst(1), y.thirst(2), y.thirst(3), y.thirst(4));
        RiverCall chain = Due.told(Due.chain("reach mouth 0 0 0 0 sink 1", " 0 0 0 0 sink 1"));
        EDGE.are("of twelve, of one", "12 1", chain.thirst(11), chain.thirst(0));
        RiverCall z = Due.told("reach mouth 9 9 9 9 sink 8;right 0 3 0 359 age 1;right 0 9 1 359 age 2");
        EDGE.is("of what is not taken", z.thirst(0), 2);
        z.days(1);
        EDGE.is("takes as they are, though one is short", z.thirst(0), 8);
    }

    private static void letter() {
        says(36, "k NONE: how many; -2: it has not so many; NONE for k below NONE.");
        RiverCall x = Due.told("wet 7");
        EDGE.are("wet 7", "5 119 101 116 32 55", x.letter(-1), x.letter(0), x.letter(1), x.letter(2), x.letter(3), x.letter(4));
        EDGE.are("too many", "-2 -2 -2", x.letter(5), x.letter(6), x.letter(MOST));
        EDGE.are("below", "-1 -1", x.letter(-2), x.letter(LEAST));
        RiverCall none = new RiverCall();
        EDGE.are("of nothing", "0 -2 -1", none.letter(-1), none.letter(0), none.letter(-2));
        says(36, "REACHES, RIGHTS, STORES by numbers, AGES and REACHES of RIGHTS as they are now");
        RiverCall y = Due.told("reach mouth 1 1 1 1;store 0 5 6 age 3;right 0 7 8 9 age 4;reach 0 2 2 2 2;right 1 1 0 359 age 1;store 1 1 1 age 2");
        EDGE.is("by numbers", Due.letters(y), "reach mouth 1 1 1 1;reach 0 2 2 2 2;right 0 7 8 9 age 4;right 1 1 0 359 age 1;"
            + "store 0 5 6 age 3;store 1 1 1 age 2");
        y.trade(0, 1);
        EDGE.is("moves", y.move(0, 1), 1);
        EDGE.is("as they are now", Due.letters(y), "reach mouth 1 1 1 1;reach 0 2 2 2 2;right 1 7 8 9 age 1;right 1 1 0 359 age 4;"
            + "store 0 5 6 age 3;store 1 1 1 age 2");
    }

    private static void letterParts() {
        says(36, "(sink if it is not 0; vol, back as far as they were told), then wet, if it is not 100");
        String one = "reach mouth 1 1 1 1";
        EDGE.is("sink 0", Due.letters(Due.told(one + " sink 0")), one);
        EDGE.is("sink 1", Due.letters(Due.told(one + " sink 1")), one + " sink 1");
        EDGE.is("back of nothing", Due.letters(Due.told(one + ";right 0 1 0 0 age 0 back 0 0 1")), one + ";right 0 1 0 0 age 0 back 0 0 1");
        EDGE.is("vol alone", Due.letters(Due.told(one + ";right 0 1 0 0 age 0 vol 1")), one + ";right 0 1 0 0 age 0 vol 1");
        EDGE.is("both", Due.letters(Due.told(one + ";right 0 1 0 0 age 0 vol 999999 back 0 100 30")),
            one + ";right 0 1 0 0 age 0 vol 999999 back 0 100 30");
        RiverCall x = Due.told(one + ";right 0 9 0 359 age 10 vol 50");
        x.days(60);
        x.demand(0, 3);
        EDGE.is("vol as it was told", Due.letters(x), one + ";right 0 9 0 359 age 10 vol 50");
        EDGE.is("wet 100 told", Due.letters(Due.told("wet 100")), "");
        EDGE.is("wet 99 told", Due.letters(Due.told("wet 99;" + one)), one + ";wet 99");
        x.wet(101);
        EDGE.is("wet 101 now", Due.letters(x), one + ";right 0 9 0 359 age 10 vol 50;wet 101");
        x.wet(100);
        EDGE.is("wet 100 now", Due.letters(x), one + ";right 0 9 0 359 age 10 vol 50");
        says(36, "one blank between WORDS and NUMBERS, ; without blanks between PARTS");
        EDGE.is("blanks", Due.letters(Due.told("  reach  mouth1 02 003  0004sink5 ;  store0 6  7age08  ; wet9 ")),
            "reach mouth 1 2 3 4 sink 5;store 0 6 7 age 8;wet 9");
        EDGE.is("all digits", Due.letters(Due.told("reach mouth 9999 1000 0 1002;store 0 999999 9999 age 9999;store 0 100000 10 age 100")),
            "reach mouth 9999 1000 0 1002;store 0 999999 9999 age 9999;store 0 100000 10 age 100");
    }

    private static void count() {
        says(44, "What 0: REACHES, 1: RIGHTS, 2: STORES, 3: DAY, 4: WET, 5: ACTS that can be UNDONE, 6: bytes of the TAPE, 7: SHELVES on "
            + "which something is KEPT, as bits, 8: ORDERS, 9: BARTERS. NONE for others.");
        RiverCall x = Due.told("reach mouth 9 9 9 9;reach mouth 9 9 9 9;reach mouth 9 9 9 9;" + Due.many("right 0 1 0 0 age #", 5) + ";"
            + Due.many("store 0 1 1 age 9#", 4));
        EDGE.are("told", "3 5 4 0 100 0 0 0 0 0", x.count(0), x.count(1), x.count(2), x.count(3), x.count(4), x.count(5), x.count(6),
            x.count(7), x.count(8), x.count(9));
        for (int i = 0; i < 4; i++) {
            x.order(i, 0, 1);
            x.barter(i, 0);
            EDGE.are("orders, barters", (i + 1) + " " + (i + 1), x.count(8), x.count(9));
        }
        x.barter(4, 3);
        EDGE.are("all of them", "4 5 9", x.count(8), x.count(9), x.count(5));
        x.order(0, 0, 0);
        x.order(3, 0, 0);
        x.barter(4, -1);
        EDGE.are("fewer", "2 4 10", x.count(8), x.count(9), x.count(5));
        EDGE.are("shelf 1", "0 2", x.keep(1), x.count(7));
        EDGE.are("both", "0 3", x.keep(0), x.count(7));
        RiverCall y = new RiverCall();
        EDGE.are("shelf 0", "0 1", y.keep(0), y.count(7));
        EDGE.are("others", "-1 -1 -1 -1", x.count(10), x.count(-1), x.count(MOST), x.count(LEAST));
    }
}
