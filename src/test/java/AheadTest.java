/** Promises 25 to 29, 31, 37 to 43: how wet it must be, what comes in the next DAYS. */
public final class AheadTest {
    private static final Due DUE = new Due();
    private static final int NO = Integer.MIN_VALUE;
    /** 10 a day in the first quarter, 2 in the second, none then: the elder wants 6, the younger 8. */
    private static final String DRYING = "reach mouth 10 2 0 0;right 0 6 0 359 age 1;right 0 8 80 99 age 2";

    public static void main(String[] args) {
        needs();
        dry();
        firm();
        spell();
        without();
        hurt();
        movable();
        runs();
        full();
        swap();
        gain();
        share();
        worst();
        nothingIsChanged();
        DUE.end();
    }

    private static void needs() {
        RiverCall x = Due.told(Due.CALLED);
        DUE.is("needs 0", x.needs(0), 76);
        DUE.is("needs 1", x.needs(1), 126);
        DUE.is("no right", x.needs(2), -1);
        DUE.is("no right below", x.needs(-1), -1);
        x.demand(1, 0);
        DUE.is("wants nothing", x.needs(1), 0);
        DUE.is("by none", Due.told("reach mouth 1 1 1 1;right 0 5 0 359 age 1").needs(0), -2);
        DUE.is("by 400", Due.told("reach mouth 1 1 1 1;right 0 4 0 359 age 1").needs(0), 400);
        DUE.is("out of season", Due.told("reach mouth 0 0 0 0;right 0 4 1 359 age 1").needs(0), 0);
    }

    private static void dry() {
        RiverCall x = Due.told(Due.CALLED);
        DUE.is("today", x.dry(1), 126);
        DUE.is("two days", x.dry(2), 126);
        DUE.is("no days", x.dry(0), -1);
        DUE.is("eleven days", x.dry(11), -1);
        DUE.is("by none", Due.told("reach mouth 1 1 1 1;right 0 5 9 9 age 1").dry(10), -2);
        DUE.is("by 400", Due.told("reach mouth 1 1 1 1;right 0 4 0 359 age 1").dry(3), 400);
        DUE.is("not in nine", Due.told("reach mouth 1 1 1 1;right 0 5 9 9 age 1").dry(9), 0);
        DUE.is("no rights", Due.told("reach mouth 1 1 1 1").dry(10), 0);
    }

    private static void firm() {
        RiverCall x = Due.told(DRYING);
        DUE.is("together", x.firm(0, 100, 0), 6 * 90 + 2 * 10);
        DUE.is("least", x.firm(0, 100, 1), 2);
        DUE.is("short", x.firm(0, 100, 2), 10);
        DUE.is("one day", x.firm(0, 1, 0), 6);
        DUE.is("least of a day", x.firm(0, 1, 1), 6);
        DUE.is("a year", x.firm(0, 360, 0), 6 * 90 + 2 * 90);
        DUE.is("short in a year", x.firm(0, 360, 2), 270);
        DUE.is("the younger one", x.firm(1, 360, 0), 4 * 10);
        DUE.is("its short days", x.firm(1, 360, 2), 20);
        DUE.is("its least", x.firm(1, 360, 1), 0);
        DUE.is("no days", x.firm(0, 0, 0), -1);
        DUE.is("361 days", x.firm(0, 361, 0), -1);
        DUE.is("no right", x.firm(2, 1, 0), -1);
        DUE.is("no what", x.firm(0, 1, 3), -1);
        DUE.is("no what below", x.firm(0, 1, -1), -1);
        RiverCall v = Due.told("reach mouth 9 9 9 9;right 0 5 0 359 age 1 vol 12");
        v.days(60);
        v.days(60);
        v.days(60);
        v.days(60);
        v.days(60);
        v.days(58);
        DUE.is("nothing left", v.firm(0, 2, 0), 0);
        DUE.is("the next year's volume", v.firm(0, 4, 0), 10);
        DUE.is("all of it", v.firm(0, 9, 0), 12);
    }

    private static void spell() {
        RiverCall x = Due.told(DRYING);
        DUE.is("first", x.spell(0, 360, 0), 90);
        DUE.is("the most", x.spell(0, 360, 1), 270);
        DUE.is("not in 90", x.spell(0, 90, 0), -2);
        DUE.is("none in 90", x.spell(0, 90, 1), 0);
        DUE.is("first in 91", x.spell(0, 91, 0), 90);
        DUE.is("the younger one", x.spell(1, 360, 0), 80);
        DUE.is("its most", x.spell(1, 360, 1), 20);
        DUE.is("no days", x.spell(0, 0, 0), -1);
        DUE.is("361 days", x.spell(0, 361, 0), -1);
        DUE.is("no what", x.spell(0, 1, 2), -1);
        DUE.is("no right", x.spell(-1, 1, 0), -1);
        RiverCall y = Due.told("reach mouth 5 0 5 0;right 0 4 0 359 age 1");
        DUE.is("two spells", y.spell(0, 300, 1), 90);
        y.days(60);
        y.days(40);
        DUE.is("today", y.spell(0, 1, 0), 0);
        DUE.is("over the year's end", y.spell(0, 360, 1), 90);
    }

    private static void without() {
        RiverCall x = Due.told(DRYING);
        DUE.is("without the elder", x.without(1, 0, 360), 4 * 10 + 2 * 10);
        DUE.is("without the younger", x.without(0, 1, 360), 0);
        DUE.is("one", x.without(0, 0, 1), NO);
        DUE.is("no right", x.without(0, 2, 1), NO);
        DUE.is("no right below", x.without(-1, 0, 1), NO);
        DUE.is("no days", x.without(0, 1, 0), NO);
        DUE.is("361 days", x.without(0, 1, 361), NO);
        RiverCall y = Due.told("reach mouth 0 0 0 0;reach mouth 5 5 5 5;right 0 5 0 359 age 2;right 1 5 0 359 age 1 back 0 100 1");
        DUE.is("it lived of what runs back", y.without(0, 1, 3), -10);
    }

    private static void hurt() {
        RiverCall x = Due.told("reach mouth 0 0 0 0;reach 0 9 9 9 9;right 0 5 0 359 age 2;right 0 6 0 359 age 3");
        DUE.is("above the elder", x.hurt(1, 1, 0), 0);
        DUE.is("its own reach", x.hurt(1, 0, 0), 0);
        DUE.is("no right", x.hurt(2, 0, 0), -1);
        DUE.is("one", x.hurt(0, 1, 0), -1);
        DUE.is("no reach", x.hurt(0, 2, 1), -1);
        DUE.is("no reach below", x.hurt(0, -1, 1), -1);
        RiverCall y = Due.told("reach mouth 9 9 9 9;reach mouth 4 4 4 4;right 0 5 0 359 age 1;right 1 3 0 359 age 2");
        DUE.is("of 4 the elder takes all", y.hurt(0, 1, 1), 3 * 360);
        DUE.is("the younger one hurts nobody", y.hurt(1, 0, 0), 0);
        DUE.is("it takes more", Due.told("reach mouth 9 9 9 9;reach mouth 4 4 4 4;right 0 5 0 359 age 1;right 0 9 0 359 age 2")
            .hurt(0, 1, 1), 0);
    }

    private static void movable() {
        RiverCall y = Due.told("reach mouth 9 9 9 9;reach mouth 4 4 4 4;right 0 5 0 359 age 1;right 1 3 0 359 age 2;"
            + "reach mouth 0 0 0 0");
        DUE.is("the elder", y.movable(0), 4);
        DUE.is("the younger", y.movable(1), 5);
        DUE.is("no right", y.movable(2), -1);
        DUE.is("no right below", y.movable(-1), -1);
        RiverCall z = Due.told("reach mouth 9 9 9 9;reach mouth 4 4 4 4;right 1 3 0 359 age 2;right 0 5 0 359 age 1");
        DUE.is("the first one would be hurt", z.movable(1), 0);
        DUE.is("so it stays", z.move(1, 1), -3);
        DUE.is("nowhere", Due.told("reach mouth 9 9 9 9;right 0 5 0 359 age 1").movable(0), 0);
    }

    private static void runs() {
        RiverCall x = Due.told("reach mouth 10 10 10 10 sink 3;reach mouth 4 4 4 4;right 0 5 0 9 age 1;right 1 9 0 4 age 2");
        DUE.is("mouth", x.runs(10, 0), 10 * 2 + 5 * 4);
        DUE.is("sinks", x.runs(10, 1), 30);
        DUE.is("rights", x.runs(10, 2), 50 + 20);
        DUE.is("calling", x.runs(10, 3), 5);
        DUE.is("a year", x.runs(360, 1), 3 * 360);
        DUE.is("no days", x.runs(0, 0), -1);
        DUE.is("361 days", x.runs(361, 0), -1);
        DUE.is("no what", x.runs(1, 4), -1);
        DUE.is("no what below", x.runs(1, -1), -1);
    }

    private static void full() {
        RiverCall x = Due.told("reach mouth 9 9 9 9;store 0 25 8 age 1;right 0 5 0 359 age 2;store 0 9999 1 age 3");
        DUE.is("full", x.full(0, 0), 4);
        DUE.is("empty now", x.full(0, 1), 0);
        DUE.is("not in a year", x.full(1, 0), -2);
        x.days(4);
        DUE.is("full now", x.full(0, 0), 0);
        DUE.is("never empty", x.full(0, 1), -2);
        x.wet(0);
        x.order(0, 0, 9);
        DUE.is("empty in 3", x.full(0, 1), 3);
        DUE.is("no store", x.full(2, 0), -1);
        DUE.is("no store below", x.full(-1, 0), -1);
        DUE.is("no what", x.full(0, 2), -1);
        DUE.is("no what below", x.full(0, -1), -1);
        RiverCall y = Due.told("reach mouth 1 1 1 1;store 0 360 1 age 1");
        DUE.is("in 360", y.full(0, 0), 360);
        DUE.is("not in 361", Due.told("reach mouth 1 1 1 1;store 0 361 1 age 1").full(0, 0), -2);
    }

    private static void swap() {
        RiverCall x = Due.told(DRYING);
        DUE.is("the one", x.swap(0, 1, 360, 0), -4 * 10 - 2 * 10);
        DUE.is("the other", x.swap(0, 1, 360, 1), 4 * 10 + 2 * 10);
        DUE.is("the other one first", x.swap(1, 0, 360, 0), 60);
        DUE.is("one", x.swap(1, 1, 1, 0), NO);
        DUE.is("no right", x.swap(0, 2, 1, 0), NO);
        DUE.is("no days", x.swap(0, 1, 0, 0), NO);
        DUE.is("361 days", x.swap(0, 1, 361, 0), NO);
        DUE.is("no what", x.swap(0, 1, 1, 2), NO);
        DUE.is("no what below", x.swap(0, 1, 1, -1), NO);
    }

    private static void gain() {
        RiverCall x = Due.told(DRYING);
        DUE.is("no more", x.gain(0, 0, 360), 0);
        DUE.is("3 more", x.gain(0, 3, 100), 10 * 3 + 10 * 3);
        DUE.is("all", x.gain(0, 9999, 360), 6 * 360 + 8 * 20 - 6 * 90 - 2 * 90 - 40);
        x.wet(0);
        DUE.is("whatever wet", x.gain(0, 3, 5), 15);
        DUE.is("no reach", x.gain(1, 1, 1), NO);
        DUE.is("no reach below", x.gain(-1, 1, 1), NO);
        DUE.is("more than 9999", x.gain(0, 10000, 1), NO);
        DUE.is("below 0", x.gain(0, -1, 1), NO);
        DUE.is("no days", x.gain(0, 1, 0), NO);
        DUE.is("361 days", x.gain(0, 1, 361), NO);
        DUE.is("then as ever", x.firm(0, 5, 0), 0);
    }

    private static void share() {
        RiverCall x = Due.told(DRYING);
        DUE.is("the elder", x.share(0, 360), 720 * 1000 / 2160);
        DUE.is("the younger", x.share(1, 360), 250);
        DUE.is("all", x.share(-1, 360), 760 * 1000 / 2320);
        DUE.is("downwards", x.share(0, 92), (540 + 4) * 1000 / 552);
        DUE.is("wants nothing", x.share(1, 10), 1000);
        DUE.is("no right", x.share(2, 1), -1);
        DUE.is("no right below", x.share(-2, 1), -1);
        DUE.is("no days", x.share(0, 0), -1);
        DUE.is("361 days", x.share(-1, 361), -1);
        RiverCall big = Due.told("reach mouth 9999 9999 9999 9999;right 0 9999 0 359 age 1");
        DUE.is("beyond an int", big.share(0, 360), 1000);
    }

    private static void worst() {
        RiverCall x = Due.told(DRYING);
        DUE.is("the younger", x.worst(360), 1);
        DUE.is("of several the first", x.worst(80), 0);
        DUE.is("no days", x.worst(0), -1);
        DUE.is("361 days", x.worst(361), -1);
        DUE.is("no rights", Due.told("reach mouth 1 1 1 1").worst(1), -2);
        DUE.is("no rights, no days", new RiverCall().worst(0), -1);
        // 2 of 3003 lack and 1 of 2002: 999 thousandths each.
        RiverCall y = Due.told("reach mouth 2001 2001 2001 2001;reach mouth 3001 3001 3001 3001;right 0 2002 0 359 age 1;"
            + "right 1 3003 0 359 age 2");
        DUE.is("alike in thousandths", y.worst(1), 0);
    }

    private static void nothingIsChanged() {
        RiverCall x = Due.told(Due.CALLED);
        x.days(5);
        String before = Due.letters(x) + x.gone(0) + x.gone(6) + x.count(3) + x.count(4) + x.right(1, 12) + x.count(5);
        x.needs(1);
        x.dry(10);
        x.firm(0, 360, 0);
        x.without(0, 1, 50);
        x.hurt(0, 1, 1);
        x.movable(0);
        x.runs(360, 0);
        x.full(0, 0);
        x.swap(0, 1, 100, 0);
        x.spell(0, 100, 1);
        x.gain(0, 100, 100);
        x.share(-1, 100);
        x.worst(100);
        x.caller(1);
        x.shut(1);
        x.calls(1);
        x.thirst(0);
        DUE.is("as before",
            Due.letters(x) + x.gone(0) + x.gone(6) + x.count(3) + x.count(4) + x.right(1, 12) + x.count(5), before);
    }
}
