/** Promises 5 to 14, 32 and 44: ACTS, what is UNDONE and KEPT, where all water went, what is counted. */
public final class ActsTest {
    private static final Due DUE = new Due();

    public static void main(String[] args) {
        days();
        wet();
        demand();
        order();
        barter();
        trade();
        move();
        undo();
        undoneWhole();
        shelves();
        gone();
        count();
        DUE.end();
    }

    private static void days() {
        RiverCall x = Due.told(Due.CALLED);
        DUE.is("days 0", x.days(0), -1);
        DUE.is("days 61", x.days(61), -1);
        DUE.is("days below", x.days(Integer.MIN_VALUE), -1);
        DUE.is("nothing happened", x.count(3), 0);
        DUE.is("no act", x.count(5), 0);
        DUE.is("days 1", x.days(1), 1);
        DUE.is("days 60", x.days(60), 61);
        for (int i = 0; i < 4; i++) {
            x.days(60);
        }
        DUE.is("behind the year", x.days(60), 1);
        DUE.is("days gone by", x.gone(7), 361);
        DUE.is("one act each", x.count(5), 7);
    }

    private static void wet() {
        RiverCall x = new RiverCall();
        DUE.is("wet", x.wet(400), 100);
        DUE.is("it is so", x.wet(400), -2);
        DUE.is("wet 0", x.wet(0), 400);
        DUE.is("wet 401", x.wet(401), -1);
        DUE.is("wet -1", x.wet(-1), -1);
        DUE.is("wet is", x.count(4), 0);
        DUE.is("two acts", x.count(5), 2);
    }

    private static void demand() {
        RiverCall x = Due.told(Due.CALLED);
        DUE.is("demand", x.demand(1, 0), 30);
        DUE.is("it is so", x.demand(1, 0), -2);
        DUE.is("its rate", x.demand(1, 30), 0);
        DUE.is("beyond its rate", x.demand(1, 31), -1);
        DUE.is("below 0", x.demand(1, -1), -1);
        DUE.is("no right", x.demand(2, 1), -1);
        DUE.is("no right below", x.demand(-1, 1), -1);
        DUE.is("demand is", x.right(1, 10), 30);
        DUE.is("acts", x.count(5), 2);
    }

    private static void order() {
        RiverCall x = Due.told(Due.CALLED + ";reach mouth 1 1 1 1;right 2 5 0 359 age 20");
        DUE.is("without one, 0", x.order(0, 0, 0), -2);
        DUE.is("without one, 0, ahead of -3", x.order(0, 2, 0), -2);
        DUE.is("elsewhere", x.order(0, 2, 1), -3);
        DUE.is("order", x.order(0, 0, 9999), 1);
        DUE.is("it is so", x.order(0, 0, 9999), -2);
        DUE.is("another right", x.order(0, 1, 9999), 1);
        DUE.is("another amount", x.order(0, 1, 1), 1);
        DUE.is("its right", x.store(0, 5), 1);
        DUE.is("too much", x.order(0, 0, 10000), -1);
        DUE.is("below 0", x.order(0, 0, -1), -1);
        DUE.is("no store", x.order(1, 0, 1), -1);
        DUE.is("no store below", x.order(-1, 0, 1), -1);
        DUE.is("no right", x.order(0, 3, 1), -1);
        DUE.is("no right below", x.order(0, -1, 0), -1);
        DUE.is("one order", x.count(8), 1);
        DUE.is("none any more", x.order(0, 0, 0), 1);
        DUE.is("no order", x.count(8), 0);
        DUE.is("its right then", x.store(0, 5), -2);
        DUE.is("its amount then", x.store(0, 6), 0);
        DUE.is("acts", x.count(5), 4);
    }

    private static void barter() {
        RiverCall x = Due.told(Due.CALLED + ";store 0 5 5 age 11");
        DUE.is("none, none", x.barter(0, -1), -2);
        DUE.is("upwards", x.barter(0, 0), -3);
        DUE.is("barter", x.barter(0, 1), 1);
        DUE.is("it is so", x.barter(0, 1), -2);
        DUE.is("barter of the other", x.barter(1, 0), 1);
        DUE.is("with another", x.barter(1, 1), 1);
        DUE.is("its store", x.right(1, 11), 1);
        DUE.is("two", x.count(9), 2);
        DUE.is("none any more", x.barter(1, -1), 1);
        DUE.is("its store then", x.right(1, 11), -2);
        DUE.is("no right", x.barter(2, 0), -1);
        DUE.is("no right, none", x.barter(-1, -1), -1);
        DUE.is("no store", x.barter(0, 2), -1);
        DUE.is("no store below", x.barter(0, -2), -1);
        DUE.is("acts", x.count(5), 4);
    }

    private static void trade() {
        RiverCall x = Due.told(Due.CALLED);
        DUE.is("one", x.trade(1, 1), -1);
        DUE.is("no right", x.trade(1, 2), -1);
        DUE.is("no right below", x.trade(-1, 0), -1);
        DUE.is("no act", x.count(5), 0);
        DUE.is("trade", x.trade(0, 1), 1);
        DUE.is("age 0", x.right(0, 4), 5);
        DUE.is("age 1", x.right(1, 4), 1);
        DUE.is("takes 1", x.takes(1, 0), 30);
        DUE.is("takes 0", x.takes(0, 0), 25);
    }

    private static void move() {
        RiverCall x = Due.told("reach mouth 10 10 10 10;reach 0 0 0 0 0;reach 0 6 6 6 0;right 0 10 0 359 age 1;"
            + "right 2 5 0 359 age 5");
        DUE.is("no right", x.move(2, 0), -1);
        DUE.is("no reach", x.move(0, 3), -1);
        DUE.is("no reach below", x.move(0, -1), -1);
        DUE.is("it is there", x.move(0, 0), -2);
        DUE.is("the older one to the other: in the last quarter it is not hurt", x.move(0, 2), -3);
        DUE.is("hurts by so much", x.hurt(0, 2, 1), 5 * 270);
        DUE.is("nobody at 1", x.move(0, 1), 1);
        DUE.is("its reach", x.right(0, 0), 1);
        DUE.is("its takes", x.takes(0, 0), 0);
        DUE.is("acts", x.count(5), 1);
        DUE.is("undone", x.undo(), 0);
        DUE.is("its reach again", x.right(0, 0), 0);
        DUE.is("the younger one below", x.move(1, 0), 1);
        DUE.is("takes there", x.takes(1, 0), 5);
    }

    private static void undo() {
        RiverCall x = new RiverCall();
        DUE.is("none", x.undo(), -1);
        for (int i = 1; i <= 12; i++) {
            x.wet(i);
            DUE.is("acts " + i, x.count(5), Math.min(10, i));
        }
        for (int i = 11; i >= 2; i--) {
            DUE.is("undo to " + i, x.undo(), i - 2);
            DUE.is("wet then", x.count(4), i);
        }
        DUE.is("no more", x.undo(), -1);
        DUE.is("wet stays", x.count(4), 2);
        x.wet(50);
        DUE.is("one more", x.undo(), 0);
        x.feed(1, 2, 3, 4, 5);
        x.wet(7);
        x.end(3);
        x.undo();
        DUE.is("the tape stays", x.count(6), 3);
    }

    private static void undoneWhole() {
        RiverCall x = Due.told(Due.CALLED + ";right 0 9 0 359 age 3 vol 500;store 0 40 5 age 2");
        x.days(7);
        String before = Due.whole(x);
        x.days(20);
        x.wet(300);
        x.demand(2, 4);
        x.order(0, 1, 6);
        x.barter(1, 1);
        x.trade(0, 2);
        x.days(40);
        for (int i = 0; i < 7; i++) {
            x.undo();
        }
        DUE.is("all is as it was", Due.whole(x), before);
        DUE.is("one more act", x.count(5), 1);
    }

    private static void shelves() {
        RiverCall x = Due.told(Due.CALLED + ";right 0 9 0 359 age 3 vol 500;store 0 40 5 age 2");
        DUE.is("nothing kept", x.back(0), -2);
        DUE.is("no shelf", x.keep(2), -1);
        DUE.is("no shelf below", x.keep(-1), -1);
        DUE.is("back of no shelf", x.back(2), -1);
        DUE.is("back of no shelf below", x.back(-1), -1);
        x.days(9);
        x.order(0, 1, 6);
        DUE.is("keep", x.keep(1), 9);
        DUE.is("kept", x.count(7), 2);
        DUE.is("keep is no act", x.count(5), 2);
        String before = Due.whole(x);
        x.days(30);
        DUE.is("keep 0", x.keep(0), 39);
        Due.tell(x, "wet 3");
        DUE.is("both", x.count(7), 3);
        x.feed(1, 1, 1, 1, 1);
        DUE.is("back", x.back(1), 9);
        DUE.is("all is as it was", Due.whole(x), before);
        DUE.is("nothing can be undone", x.undo(), -1);
        DUE.is("no acts", x.count(5), 0);
        x.wet(6);
        DUE.is("back with an act", x.back(1), 9);
        DUE.is("it cannot be undone", x.undo(), -1);
        DUE.is("the tape stays", x.count(6), 20);
        DUE.is("shelves stay", x.count(7), 3);
        x.wet(5);
        DUE.is("back again", x.back(1), 9);
        DUE.is("all is as it was again", Due.whole(x), before);
        DUE.is("the other", x.back(0), 39);
        x.keep(1);
        DUE.is("kept anew", x.back(1), 39);
    }

    private static void gone() {
        RiverCall x = Due.told(Due.CALLED);
        x.days(1);
        long[] first = {60, 0, 5, 55, 0, 0, 7, 1};
        for (int what = 0; what < first.length; what++) {
            DUE.is("gone " + what, x.gone(what), first[what]);
        }
        DUE.is("gone 8", x.gone(8), Long.MIN_VALUE);
        DUE.is("gone -1", x.gone(-1), Long.MIN_VALUE);
        x.wet(250);
        x.order(0, 1, 3);
        x.days(60);
        x.wet(90);
        x.days(60);
        DUE.is("in and out", x.gone(0) + x.gone(4), x.gone(1) + x.gone(2) + x.gone(3) + x.gone(5));
        DUE.is("in stores", x.gone(5), x.store(0, 4));
        DUE.is("taken", x.gone(3), x.right(0, 12) + x.right(1, 12));
        RiverCall big = Due.told("reach mouth 9999 9999 9999 9999;reach 0 9999 9999 9999 9999;reach 1 9999 9999 9999 9999;wet 400");
        for (int i = 0; i < 500; i++) {
            big.days(60);
        }
        DUE.is("beyond an int", big.gone(1), 39996L * 3 * 30000);
    }

    private static void count() {
        RiverCall x = Due.told(Due.CALLED + ";wet 77");
        x.days(5);
        x.feed(0, 0, 0, 0, 0);
        x.keep(0);
        x.order(0, 0, 5);
        x.barter(1, 0);
        int[] counts = {2, 2, 1, 5, 77, 3, 20, 1, 1, 1};
        for (int what = 0; what < counts.length; what++) {
            DUE.is("count " + what, x.count(what), counts[what]);
        }
        DUE.is("count 10", x.count(10), -1);
        DUE.is("count -1", x.count(-1), -1);
    }
}
