/** Promises 25 to 29, 31 and 37 to 43, sentence by sentence: how wet it must be, what comes in the next DAYS. */
public final class AheadEdgeTest {
    private static final Edge EDGE = new Edge();
    private static final int LEAST = Integer.MIN_VALUE;
    private static final int MOST = Integer.MAX_VALUE;
    /** Four times what Integer.MIN_VALUE answers to a call without a RIGHT, a REACH, a DAY or a what. */
    private static final String NO_INTS = LEAST + " " + LEAST + " " + LEAST + " " + LEAST;
    private static final String NONES = "-1 -1 -1 -1";
    /** 10 a DAY in the first QUARTER, 2 in the second, none then: the elder wants 6, the younger 8. */
    private static final String DRYING = "reach mouth 10 2 0 0;right 0 6 0 359 age 1;right 0 8 80 99 age 2";
    /** A REACH with 1 a DAY, and a RIGHT. */
    private static final String ONE = "reach mouth 1 1 1 1;right 0 ";

    public static void main(String[] args) {
        needs();
        firm();
        without();
        hurt();
        movable();
        runs();
        dry();
        full();
        swap();
        spell();
        gain();
        share();
        worst();
        EDGE.end(Edge.promise(25), Edge.promise(26), Edge.promise(27), Edge.promise(28), Edge.promise(29), Edge.promise(31),
            Edge.promise(37), Edge.promise(38), Edge.promise(39), Edge.promise(40), Edge.promise(41), Edge.promise(42),
            Edge.promise(43));
    }

    private static void says(int promise, String words) {
        EDGE.says(Edge.promise(promise), words);
    }

    /** 9 in a STORE, nothing else comes; RIGHTS want 5 and 3. */
    private static RiverCall emptying() {
        RiverCall x = Due.told("reach mouth 9 9 9 9;store 0 99 9 age 1;right 0 5 0 359 age 2;right 0 3 0 359 age 3");
        x.days(1);
        x.wet(0);
        return x;
    }

    private static void needs() {
        says(25, "The least WET (0 to 400) by which a RIGHT is not SHORT TODAY; -2: by none; NONE without it.");
        EDGE.is("by 400", Due.told(ONE + "4 0 0 age 1").needs(0), 400);
        EDGE.is("by none", Due.told(ONE + "5 0 0 age 1").needs(0), -2);
        EDGE.is("by 1", Due.told("reach mouth 100 0 0 0;right 0 1 0 0 age 1").needs(0), 1);
        EDGE.is("by 0, out of season", Due.told(ONE + "5 1 1 age 1").needs(0), 0);
        RiverCall x = Due.told("reach mouth 100 0 0 0;right 0 50 0 0 age 1;right 0 70 0 0 age 2;wet 300");
        EDGE.are("whatever it is", "50 120 300 0", x.needs(0), x.needs(1), x.count(4), x.count(5));
        x.demand(1, 0);
        EDGE.is("by 0, wanting nothing", x.needs(1), 0);
        EDGE.are("none", "-1 -1 -1 -1 -1", x.needs(2), x.needs(-1), x.needs(100), x.needs(MOST), x.needs(LEAST));
        RiverCall y = emptying();
        EDGE.is("9 for the store, 5", y.needs(0), 156);
        y.order(0, 0, 5);
        EDGE.is("by 0, with its order", y.needs(0), 0);
        y.order(0, 0, 4);
        EDGE.is("9 for the store, 1", y.needs(0), 112);
    }

    private static void firm() {
        says(26, "What a RIGHT takes in the next n DAYS (1 to 360), what 0: together, 1: on the DAY with the least, 2: on how many it is "
            + "SHORT.");
        RiverCall x = Due.told(DRYING);
        int[] spans = {1, 90, 91, 180, 181, 360};
        String[] due = {"6 6 0", "540 6 0", "542 2 1", "720 2 90", "720 0 91", "720 0 270"};
        for (int i = 0; i < spans.length; i++) {
            EDGE.are("days " + spans[i], due[i], x.firm(0, spans[i], 0), x.firm(0, spans[i], 1), x.firm(0, spans[i], 2));
        }
        EDGE.are("none in 80", "0 0 0", x.firm(1, 80, 0), x.firm(1, 80, 1), x.firm(1, 80, 2));
        EDGE.are("4 on the 81st", "4 0 1", x.firm(1, 81, 0), x.firm(1, 81, 1), x.firm(1, 81, 2));
        RiverCall y = Due.told("reach mouth 9999 9999 9999 9999;right 0 9999 0 359 age 1");
        EDGE.are("the most", "3599640 9999 0", y.firm(0, 360, 0), y.firm(0, 360, 1), y.firm(0, 360, 2));
        Due.pass(x, 359);
        EDGE.are("over the year's end", "0 6 12", x.firm(0, 1, 0), x.firm(0, 2, 0), x.firm(0, 3, 0));
        says(26, "NONE without these.");
        EDGE.are("days", NONES, x.firm(0, 0, 0), x.firm(0, 361, 0), x.firm(0, MOST, 0), x.firm(0, LEAST, 0));
        EDGE.are("rights", NONES, x.firm(2, 1, 0), x.firm(-1, 1, 0), x.firm(MOST, 1, 0), x.firm(LEAST, 1, 0));
        EDGE.are("whats", NONES, x.firm(0, 1, 3), x.firm(0, 1, -1), x.firm(0, 1, MOST), x.firm(0, 1, LEAST));
    }

    private static void without() {
        says(27, "By how much a RIGHT would take more in the next n DAYS (1 to 360) together if another one took nothing in them "
            + "(DEMAND 0) (it may be below 0)");
        RiverCall x = Due.told(DRYING);
        EDGE.are("without the elder", "0 0 4 60", x.without(1, 0, 1), x.without(1, 0, 80), x.without(1, 0, 81), x.without(1, 0, 360));
        EDGE.are("without the younger", "0 0", x.without(0, 1, 1), x.without(0, 1, 360));
        RiverCall y = Due.told("reach mouth 0 0 0 0;reach mouth 5 5 5 5;right 0 5 0 359 age 1;right 1 5 0 359 age 2 back 0 100 1");
        EDGE.are("below 0", "0 -5 -1795", y.without(0, 1, 1), y.without(0, 1, 2), y.without(0, 1, 360));
        // The STORE lets out 3 for RIGHT 1 all the same: no more is left for the BARTER.
        RiverCall z = emptying();
        z.order(0, 1, 3);
        z.barter(0, 0);
        EDGE.are("its order goes on", "5 0", z.firm(0, 2, 0), z.without(0, 1, 2));
        EDGE.are("its demand stays", "3 3", z.right(1, 10), z.takes(1, 0));
        says(27, "Integer.MIN_VALUE without these (unlike ones).");
        EDGE.are("unlike, days", NO_INTS, x.without(0, 0, 1), x.without(1, 1, 1), x.without(0, 1, 0), x.without(0, 1, 361));
        EDGE.are("rights", NO_INTS, x.without(0, 2, 1), x.without(2, 0, 1), x.without(0, -1, 1), x.without(-1, 0, 1));
        EDGE.are("far ones", NO_INTS, x.without(0, MOST, 1), x.without(LEAST, 0, 1), x.without(0, 1, MOST), x.without(0, 1, LEAST));
    }

    private static void hurt() {
        says(28, "by how much another RIGHT takes less in the next 360 DAYS together (0: it is not HURT)");
        RiverCall x = Due.told("reach mouth 9 9 9 9;reach mouth 4 4 4 4;right 0 5 0 359 age 1;right 1 3 0 359 age 2;right 0 7 0 359 age 3");
        EDGE.are("2 of 3 a day, 3 of 3", "1080 0", x.hurt(0, 1, 1), x.hurt(0, 1, 2));
        x.demand(0, 2);
        EDGE.are("1 of 3 a day", "360 0", x.hurt(0, 1, 1), x.hurt(0, 1, 2));
        x.demand(0, 1);
        EDGE.are("none of 3, none of 7", "0 0", x.hurt(0, 1, 1), x.hurt(0, 1, 2));
        EDGE.are("nothing moved", "0 0", x.right(0, 0), x.count(5) - 2);
        says(28, "NONE without these (unlike RIGHTS; the REACH may be its own).");
        EDGE.are("its own reach", "0 0", x.hurt(0, 0, 1), x.hurt(1, 1, 0));
        EDGE.are("unlike", "-1 -1", x.hurt(0, 1, 0), x.hurt(1, 1, 1));
        EDGE.are("reaches", NONES, x.hurt(0, 2, 1), x.hurt(0, -1, 1), x.hurt(0, MOST, 1), x.hurt(0, LEAST, 1));
        EDGE.are("rights", NONES, x.hurt(3, 0, 1), x.hurt(-1, 0, 1), x.hurt(0, 0, 3), x.hurt(0, 0, -1));
        EDGE.are("far rights", NONES, x.hurt(MOST, 0, 1), x.hurt(LEAST, 0, 1), x.hurt(0, 0, MOST), x.hurt(0, 0, LEAST));
    }

    private static void movable() {
        says(29, "REACHES to which a RIGHT could move() (as bits; its own is none of them); NONE without it.");
        RiverCall x = Due.told(Due.many("reach mouth 5 5 5 5", 12) + ";right 0 5 0 359 age 1;right 11 5 0 359 age 2");
        EDGE.are("all but its own and the other's; the younger one, all but its own", "2046 2047", x.movable(0), x.movable(1));
        EDGE.are("as move() answers", "-3 -2 1", x.move(0, 11), x.move(0, 0), x.move(1, 0));
        EDGE.are("from there", "4094", x.movable(1));
        EDGE.is("one reach", Due.told("reach mouth 5 5 5 5;right 0 5 0 359 age 1").movable(0), 0);
        RiverCall y = Due.told("reach mouth 5 5 5 5;reach mouth 5 5 5 5;right 0 5 0 359 age 2;right 1 5 0 359 age 1");
        EDGE.are("the first one would be hurt", "0 -3 1800", y.movable(1), y.move(1, 0), y.hurt(1, 0, 0));
        RiverCall most = Due.told("reach mouth 99 99 99 99;reach mouth 99 99 99 99;" + Due.many("right 0 5 0 359 age #", 14));
        EDGE.are("nobody of fourteen", "2 2", most.movable(0), most.movable(13));
        EDGE.are("none", "-1 -1 -1 -1 -1", x.movable(2), x.movable(-1), x.movable(100), x.movable(MOST), x.movable(LEAST));
        EDGE.are("nothing moved", "0 0 1", x.right(0, 0), x.right(1, 0), x.count(5));
    }

    private static void runs() {
        says(31, "In the next n DAYS (1 to 360) what 0: all that runs out of the MOUTH, 1: all that is lost in SINKS, 2: what all RIGHTS "
            + "take, 3: on how many DAYS some RIGHT CALLS. NONE for others.");
        RiverCall x = Due.told("reach mouth 10 10 10 10 sink 3;reach mouth 4 4 4 4;right 0 5 0 9 age 1;right 1 9 0 4 age 2;"
            + "right 1 9 0 3 age 3");
        int[] spans = {1, 5, 6, 360};
        String[] due = {"2 3 9 1", "10 15 45 5", "16 18 50 5", "3890 1080 70 5"};
        for (int i = 0; i < spans.length; i++) {
            EDGE.are("days " + spans[i], due[i], x.runs(spans[i], 0), x.runs(spans[i], 1), x.runs(spans[i], 2), x.runs(spans[i], 3));
        }
        EDGE.are("as from now on", "60 60 420 180 0 0", x.days(60), x.gone(7), x.runs(60, 0) - 240, x.runs(60, 1), x.runs(60, 2),
            x.runs(60, 3));
        EDGE.are("days", NONES, x.runs(0, 0), x.runs(361, 0), x.runs(MOST, 0), x.runs(LEAST, 0));
        EDGE.are("whats", NONES, x.runs(1, 4), x.runs(1, -1), x.runs(1, MOST), x.runs(1, LEAST));
        RiverCall y = Due.told(Due.many("reach mouth 9999 9999 9999 9999", 12) + ";wet 400");
        EDGE.is("the most", y.runs(360, 0), 12 * 39996 * 360);
        RiverCall z = Due.told("reach mouth 70 69 0 0;" + Due.many("right 0 5 0 359 age #", 14));
        EDGE.are("none of fourteen calls, then the last", "0 1", z.runs(90, 3), z.runs(91, 3));
    }

    private static void dry() {
        says(37, "The least WET (0 to 400) by which, as long as it is so, no RIGHT CALLS in the next n DAYS (1 to 10); -2: by none; NONE "
            + "for others.");
        RiverCall x = Due.told(ONE + "4 9 9 age 1");
        EDGE.are("9 days, 10 days", "0 400", x.dry(9), x.dry(10));
        RiverCall y = Due.told(ONE + "5 9 9 age 1;right 0 1 0 0 age 2");
        EDGE.are("today, 9 days, 10 days", "100 100 -2", y.dry(1), y.dry(9), y.dry(10));
        EDGE.is("by 1", Due.told("reach mouth 100 0 0 0;right 0 1 0 359 age 1").dry(10), 1);
        EDGE.is("of no rights", new RiverCall().dry(10), 0);
        // 5 on DAY 0 run back for DAY 1: by 100 the one below does not CALL on it, on DAY 2 it does.
        RiverCall z = Due.told("reach mouth 0 0 0 0;reach mouth 5 5 5 5;right 1 5 0 0 age 1 back 0 100 1;right 0 5 1 1 age 2");
        EDGE.are("as long as it is so", "100 100", z.dry(1), z.dry(2));
        z.days(1);
        EDGE.are("what is on its way comes however wet", "0 0", z.dry(1), z.dry(10));
        RiverCall w = Due.told("reach mouth 0 0 0 0;right 0 5 0 359 age 1;wet 7");
        EDGE.are("no water", "-2 7 0", w.dry(1), w.count(4), w.count(5));
        EDGE.are("others", NONES, w.dry(0), w.dry(11), w.dry(MOST), w.dry(LEAST));
    }

    private static void full() {
        says(38, "In how many DAYS (0: now; 360 at most) a STORE is full first (what 0), empty first (1); -2: not in these; NONE without "
            + "these.");
        EDGE.is("in 1", Due.told("reach mouth 1 1 1 1;store 0 1 1 age 1").full(0, 0), 1);
        EDGE.is("in 360", Due.told("reach mouth 1 1 1 1;store 0 360 1 age 1").full(0, 0), 360);
        EDGE.is("in 361", Due.told("reach mouth 1 1 1 1;store 0 361 1 age 1").full(0, 0), -2);
        RiverCall x = Due.told("reach mouth 360 0 0 0;right 0 5 0 359 age 9;store 0 360 999 age 1;store 0 1 1 age 3");
        EDGE.are("empty now", "1 0", x.full(0, 0), x.full(0, 1));
        x.days(1);
        EDGE.are("full now", "0 -2", x.full(0, 0), x.full(0, 1));
        x.wet(0);
        x.order(0, 0, 1);
        EDGE.are("full now, empty in 360", "0 360", x.full(0, 0), x.full(0, 1));
        x.order(0, 0, 360);
        EDGE.are("empty in 1", "0 1", x.full(0, 0), x.full(0, 1));
        x.days(1);
        EDGE.are("empty now, never full", "-2 0", x.full(0, 0), x.full(0, 1));
        RiverCall y = Due.told("reach mouth 361 0 0 0;right 0 5 0 359 age 9;store 0 999 999 age 1");
        y.days(1);
        y.wet(0);
        y.order(0, 0, 1);
        EDGE.are("empty in 361", "-2 -2", y.full(0, 0), y.full(0, 1));
        EDGE.are("stores", NONES, x.full(2, 0), x.full(-1, 0), x.full(MOST, 0), x.full(LEAST, 0));
        EDGE.are("whats", NONES, x.full(0, 2), x.full(0, -1), x.full(0, MOST), x.full(0, LEAST));
    }

    private static void swap() {
        says(39, "by how much the one (what 0), the other (1) would take more in the next n DAYS (1 to 360) together (it may be below 0)");
        RiverCall x = Due.told(DRYING);
        EDGE.are("in 1", "0 0", x.swap(0, 1, 1, 0), x.swap(0, 1, 1, 1));
        EDGE.are("in 80", "0 0", x.swap(0, 1, 80, 0), x.swap(0, 1, 80, 1));
        EDGE.are("in 81", "-4 4", x.swap(0, 1, 81, 0), x.swap(0, 1, 81, 1));
        EDGE.are("in 360", "-60 60", x.swap(0, 1, 360, 0), x.swap(0, 1, 360, 1));
        EDGE.are("the other first", "60 -60", x.swap(1, 0, 360, 0), x.swap(1, 0, 360, 1));
        EDGE.are("nothing traded", "1 2 0", x.right(0, 4), x.right(1, 4), x.count(5));
        says(39, "Integer.MIN_VALUE without these (unlike RIGHTS).");
        EDGE.are("unlike, days", NO_INTS, x.swap(0, 0, 1, 0), x.swap(1, 1, 1, 0), x.swap(0, 1, 0, 0), x.swap(0, 1, 361, 0));
        EDGE.are("rights", NO_INTS, x.swap(0, 2, 1, 0), x.swap(2, 0, 1, 0), x.swap(0, -1, 1, 0), x.swap(-1, 0, 1, 0));
        EDGE.are("whats", NO_INTS, x.swap(0, 1, 1, 2), x.swap(0, 1, 1, -1), x.swap(0, 1, 1, MOST), x.swap(0, 1, 1, LEAST));
        EDGE.are("far ones", NO_INTS, x.swap(MOST, 1, 1, 0), x.swap(0, LEAST, 1, 0), x.swap(0, 1, MOST, 0), x.swap(0, 1, LEAST, 0));
    }

    private static void spell() {
        says(40, "In the next n DAYS (1 to 360) what 0: the first on which a RIGHT is SHORT (0 TODAY; -2: none), 1: the most one behind the "
            + "other on which it is");
        String text = "reach mouth 5 0 6 0;right 0 4 0 359 age 1;right 0 1 170 359 age 2;right 0 1 0 279 age 3";
        RiverCall x = Due.told(text);
        int[] spans = {1, 90, 91, 92, 180, 360};
        String[] due = {"-2 0", "-2 0", "90 1", "90 2", "90 90", "90 90"};
        for (int i = 0; i < spans.length; i++) {
            EDGE.are("days " + spans[i], due[i], x.spell(0, spans[i], 0), x.spell(0, spans[i], 1));
        }
        EDGE.are("10 days, then 90", "170 90", x.spell(1, 360, 0), x.spell(1, 360, 1));
        EDGE.are("90 days, then 10", "90 90", x.spell(2, 360, 0), x.spell(2, 360, 1));
        EDGE.are("10 days, then 80 of 90", "170 80", x.spell(1, 350, 0), x.spell(1, 350, 1));
        Due.pass(x, 90);
        EDGE.are("today", "0 1", x.spell(0, 1, 0), x.spell(0, 1, 1));
        Due.pass(x, 180);
        EDGE.are("over the year's end: 90, then 90", "0 90", x.spell(0, 360, 0), x.spell(0, 360, 1));
        Due.pass(x, 80);
        EDGE.are("over the year's end: 10, then 90", "0 10 90", x.spell(0, 100, 0), x.spell(0, 100, 1), x.spell(0, 360, 1));
        RiverCall all = Due.told("reach mouth 0 0 0 0;right 0 4 0 359 age 1");
        Due.pass(all, 100);
        EDGE.are("all days", "0 360", all.spell(0, 360, 0), all.spell(0, 360, 1));
        says(40, "NONE without these.");
        EDGE.are("days", NONES, x.spell(0, 0, 0), x.spell(0, 361, 0), x.spell(0, MOST, 0), x.spell(0, LEAST, 0));
        EDGE.are("rights", NONES, x.spell(3, 1, 0), x.spell(-1, 1, 0), x.spell(MOST, 1, 0), x.spell(LEAST, 1, 0));
        EDGE.are("whats", NONES, x.spell(0, 360, 2), x.spell(0, 360, -1), x.spell(0, 360, MOST), x.spell(0, 360, LEAST));
    }

    private static void gain() {
        says(41, "If so much more (0 to 9999) came to a REACH on each of the next n DAYS (1 to 360): by how much all RIGHTS together would "
            + "take more in these (it may be below 0)");
        RiverCall x = Due.told(DRYING);
        EDGE.are("none more", "0 0", x.gain(0, 0, 1), x.gain(0, 0, 360));
        EDGE.are("1 more", "0 0 1 10", x.gain(0, 1, 1), x.gain(0, 1, 80), x.gain(0, 1, 81), x.gain(0, 1, 90));
        EDGE.are("9999 more", "0 4 1560", x.gain(0, 9999, 80), x.gain(0, 9999, 81), x.gain(0, 9999, 360));
        x.wet(0);
        EDGE.are("more, not by wet", "2 6", x.gain(0, 2, 1), x.gain(0, 6, 1));
        // RIGHT 0 would take its VOLUME at once: what runs BACK of it comes when RIGHT 1 does not want it.
        RiverCall y = Due.told("reach mouth 0 0 0 0;reach mouth 0 5 0 0;right 1 5 0 359 age 1 vol 5 back 0 100 1;right 0 5 91 91 age 2");
        EDGE.are("below 0", "5 0 -5", y.gain(1, 5, 1), y.gain(1, 5, 91), y.gain(1, 5, 92));
        EDGE.are("then as ever", "5 5", y.firm(0, 360, 0), y.firm(1, 360, 0));
        says(41, "Integer.MIN_VALUE without these.");
        EDGE.are("reaches", NO_INTS, x.gain(1, 1, 1), x.gain(-1, 1, 1), x.gain(MOST, 1, 1), x.gain(LEAST, 1, 1));
        EDGE.are("amounts", NO_INTS, x.gain(0, -1, 1), x.gain(0, 10000, 1), x.gain(0, MOST, 1), x.gain(0, LEAST, 1));
        EDGE.are("days", NO_INTS, x.gain(0, 1, 0), x.gain(0, 1, 361), x.gain(0, 1, MOST), x.gain(0, 1, LEAST));
    }

    private static void share() {
        says(42, "What a RIGHT (NONE: all together) takes in the next n DAYS (1 to 360) through what it WANTS in these, in thousandths, "
            + "downwards");
        RiverCall x = Due.told(DRYING);
        EDGE.are("all of it", "1000 1000", x.share(0, 1), x.share(0, 90));
        EDGE.are("542 of 546", "992", x.share(0, 91));
        EDGE.are("in 360", "333 250 327", x.share(0, 360), x.share(1, 360), x.share(-1, 360));
        EDGE.is("9998 of 9999", Due.told("reach mouth 9998 0 0 0;right 0 9999 0 0 age 1").share(0, 1), 999);
        EDGE.is("1 of 1001", Due.told("reach mouth 1 0 0 0;right 0 1001 0 0 age 1").share(0, 1), 0);
        EDGE.is("1 of 1000", Due.told("reach mouth 1 0 0 0;right 0 1000 0 0 age 1").share(0, 1), 1);
        EDGE.is("none", Due.told("reach mouth 0 0 0 0;right 0 1 0 0 age 1").share(0, 1), 0);
        RiverCall y = Due.told("reach mouth 9999 9999 9999 9999;" + Due.many("right 0 9999 0 359 age #", 14));
        EDGE.are("the most", "1000 0 71", y.share(0, 360), y.share(13, 360), y.share(-1, 360));
        says(42, "1000 if it WANTS nothing; NONE without these.");
        EDGE.are("wants nothing, but then", "1000 500", x.share(1, 80), x.share(1, 81));
        EDGE.is("no rights", new RiverCall().share(-1, 360), 1000);
        RiverCall z = Due.told(ONE + "5 9 9 age 1");
        EDGE.are("none of all wants", "1000 200", z.share(-1, 9), z.share(-1, 10));
        EDGE.are("days", NONES, x.share(0, 0), x.share(0, 361), x.share(-1, 0), x.share(-1, 361));
        EDGE.are("rights", NONES, x.share(2, 1), x.share(-2, 1), x.share(MOST, 1), x.share(LEAST, 1));
        EDGE.are("far days", "-1 -1", x.share(0, MOST), x.share(0, LEAST));
    }

    private static void worst() {
        says(43, "The RIGHT with the least share() of n DAYS (1 to 360), of several the first; -2: no RIGHTS; NONE for others.");
        RiverCall x = Due.told(DRYING);
        EDGE.are("both 1000, then the younger", "0 0 1 1", x.worst(1), x.worst(80), x.worst(81), x.worst(360));
        RiverCall y = Due.told("reach mouth 0 0 0 0;" + Due.many("right 0 5 0 359 age #", 14));
        EDGE.is("all none", y.worst(360), 0);
        y.demand(0, 0);
        EDGE.is("the first wants nothing", y.worst(360), 1);
        RiverCall last = Due.told("reach mouth 9 9 9 9;" + Due.many("right 0 1 0 359 age #", 10));
        EDGE.is("the last", last.worst(1), 9);
        // 999 thousandths each, though the second lacks a lesser part.
        RiverCall z = Due.told("reach mouth 2001 0 0 0;reach mouth 3002 0 0 0;right 1 3003 0 0 age 2;right 0 2002 0 0 age 1");
        EDGE.are("alike in thousandths", "999 999 0", z.share(0, 1), z.share(1, 1), z.worst(1));
        RiverCall none = Due.told("reach mouth 9 9 9 9");
        EDGE.are("no rights", "-2 -2", none.worst(1), none.worst(360));
        EDGE.are("others", NONES, x.worst(0), x.worst(361), x.worst(MOST), x.worst(LEAST));
        EDGE.are("others of no rights", "-1 -1", none.worst(0), none.worst(361));
    }
}
