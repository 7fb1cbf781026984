/** Promises 1 to 4 and 36: the TAPE, the TEXT and its FAULT, the RIVER as a TEXT. */
public final class TextTest {
    private static final Due DUE = new Due();

    public static void main(String[] args) {
        newObject();
        feeding();
        ending();
        telling();
        tooMany();
        wholeTape();
        leavesAlone();
        letters();
        DUE.end();
    }

    private static void newObject() {
        RiverCall x = new RiverCall();
        int[] counts = {0, 0, 0, 0, 100, 0, 0, 0, 0, 0};
        for (int what = 0; what < counts.length; what++) {
            DUE.is("new count " + what, x.count(what), counts[what]);
        }
        for (int what = 0; what <= 7; what++) {
            DUE.is("new gone " + what, x.gone(what), 0);
        }
        DUE.is("new undo", x.undo(), -1);
        DUE.is("new back", x.back(0), -2);
        DUE.is("new aged", x.aged(-1), 0);
        DUE.is("new aged 0", x.aged(0), -2);
        DUE.is("new reach", x.reach(0, 0), -1);
        DUE.is("new right", x.right(0, 0), -1);
        DUE.is("new store", x.store(0, 0), -1);
        DUE.is("new worst", x.worst(1), -2);
        DUE.is("new share", x.share(-1, 1), 1000);
        DUE.is("new dry", x.dry(1), 0);
        DUE.is("new runs", x.runs(360, 0), 0);
        DUE.is("new calls", x.calls(0), 0);
        DUE.is("new days", x.days(60), 60);
        DUE.is("new wet", x.wet(0), 100);
        DUE.is("new letter", Due.letters(x), "wet 0");
        DUE.is("constant", RiverCall.NONE, -1);
    }

    private static void feeding() {
        RiverCall x = new RiverCall();
        DUE.is("feed", x.feed(0x77657420, 0x37FF8001, 0, -1, 5), 20);
        DUE.is("bytes", x.count(6), 20);
        DUE.is("second feed", x.feed(0, 0, 0, 0, 0), 40);
        DUE.is("end 5", x.end(5), 5);
        DUE.is("the highest byte first", x.tell(), 0);
        DUE.is("wet 7 was told", x.count(4), 7);
        x.feed(0x77657420, 0x37FF8001, 0, -1, 5);
        DUE.is("a byte above 127", x.tell(), -2 - (8 * 5 + 1));
        for (int n = 1; n <= 20; n++) {
            DUE.is("feed " + n, x.feed(0, 0, 0, 0, 0), 20 * n);
        }
        DUE.is("feed beyond 400", x.feed(0, 0, 0, 0, 0), -1);
        DUE.is("none came", x.count(6), 400);
        x.end(381);
        DUE.is("feed of 401", x.feed(0, 0, 0, 0, 0), -1);
        DUE.is("none came of it", x.count(6), 381);
        x.end(380);
        DUE.is("feed of 400", x.feed(0, 0, 0, 0, 0), 400);
    }

    private static void ending() {
        RiverCall x = new RiverCall();
        DUE.is("end of nothing", x.end(0), 0);
        DUE.is("end beyond nothing", x.end(1), -1);
        x.feed(0, 0, 0, 0, 0);
        DUE.is("end below 0", x.end(-1), -1);
        DUE.is("end beyond", x.end(21), -1);
        DUE.is("nothing happened", x.count(6), 20);
        DUE.is("end at all", x.end(20), 20);
        DUE.is("end at 7", x.end(7), 7);
        DUE.is("7 bytes", x.count(6), 7);
        DUE.is("they are gone", x.end(8), -1);
        DUE.is("end at 0", x.end(0), 0);
    }

    private static void fault(String text, int place, int code) {
        RiverCall x = new RiverCall();
        DUE.is("tell \"" + text + "\"", Due.tell(x, text), -2 - (8 * place + code));
        DUE.is("no tape behind \"" + text + "\"", x.count(6), 0);
        DUE.is("no reach behind \"" + text + "\"", x.count(0), 0);
    }

    private static void fine(String text, int rights) {
        DUE.is("tell \"" + text + "\"", Due.tell(new RiverCall(), text), rights);
    }

    private static void telling() {
        fine("", 0);
        fine("   ", 0);
        fine(Due.CALLED, 2);
        fine("reach mouth 1 1 1 1;right 0 5 0 8 age 1", 1);
        fault("reachmouth 1 1 1 1", 0, 1);
        fine("reach mouth1 1 1 1sink2;right0 5 0 8age1vol3back0 4 5;store0 1 1age2;wet5", 1);
        fine("  reach   mouth 01 1 1 0001  ;  wet 007  ", 0);
        fine("wet 3;reach mouth 1 1 1 1;store 0 1 1 age 0;reach 0 1 1 1 1", 0);
        fault(";", 0, 1);
        fault("  ;", 2, 1);
        fault("wet 3;", 6, 1);
        fault("wet 3;  ", 8, 1);
        fault("wet 3;;wet 4", 6, 1);
        fault("wet 3 4", 6, 1);
        fault("wet 3wet 4", 5, 1);
        fault("wets 3", 0, 1);
        fault("we 3", 0, 1);
        fault("weta 3", 0, 1);
        fault("wetz 3", 0, 1);
        fault("Wet 3", 0, 1);
        fault("wet\t3", 3, 1);
        fault("wet ", 4, 1);
        fault("wet", 3, 1);
        fault("wet x", 4, 1);
        fault("wet -3", 4, 1);
        fault("7", 0, 1);
        fault("wet 3\0", 5, 1);
        fault("reach", 5, 1);
        fault("reach 0 1 1 1 1", 6, 2);
        fault("reach top 1 1 1 1", 6, 1);
        fault("reach mouths 1 1 1 1", 6, 1);
        fault("reach mouth 1 1 1", 17, 1);
        fault("reach mouth 1 1 1;", 17, 1);
        fault("reach mouth 1 1 1 1 sank 3", 20, 1);
        fault("reach mouth 1 1 1 1 sink", 24, 1);
        fault("reach mouth 1 1 1 1 sink sink", 25, 1);
        fault("reach mouth 1 1 1 1;reach 1 1 1 1 1", 26, 2);
        fault("store 0 1 1 age 1", 6, 2);
        fault("right 0 1 1 age 1", 6, 2);
        fault("right mouth", 6, 1);
        String river = "reach mouth 1 1 1 1;";
        fault(river + "right 0 5 9 8 age 1", 32, 2);
        fault(river + "right 0 5 9 9 edge 1", 34, 1);
        fault(river + "right 0 5 9 9 1", 34, 1);
        fault(river + "right 0 5 9 9 age", 37, 1);
        fault(river + "right 0 5 9 9 age 1 back 0 0 1 vol 1", 51, 1);
        fault(river + "right 0 5 9 9 age 1 back 1 0 1", 45, 2);
        fault(river + "right 0 5 9 9 age 1 vol 1 vol 2", 46, 1);
        fault(river + "right 0 5 0 8 age 1;right 0 5 0 8 age 1", 58, 2);
        fault(river + "right 0 5 0 8 age 1;store 0 5 8 age 1", 56, 2);
        fault(river + "store 0 5 8 age 1;store 0 5 8 age 01", 54, 2);
        fault(river + "store 0 5 8 age 1;right 0 5 0 8 age 1", 56, 2);
        fault("wet 401", 4, 2);
        fault("wet 401 x", 4, 2);
        fault("wet 99999999999999999999", 4, 2);
        fault("wet 4294967296", 4, 2);
    }

    private static void tooMany() {
        String reach = "reach mouth 1 1 1 1";
        fine(Due.many(reach, 12), 0);
        fault(Due.many(reach, 13), 12 * 20, 3);
        fault(Due.many(reach, 12) + ";reachx", 12 * 20, 1);
        fine(reach + ";" + Due.many("right 0 1 0 0 age #", 14), 14);
        fault(reach + ";" + Due.many("right 0 1 0 0 age #", 14) + ";right", 20 + 14 * 20 + 4, 3);
        fine(reach + ";" + Due.many("store 0 1 1 age #", 4), 0);
        fault(reach + ";" + Due.many("store 0 1 1 age #", 5), 20 + 4 * 18, 3);
        fault("wet 1;wet 2", 6, 3);
        fault("wet 1;wet", 6, 3);
        fault("wet 1;wet 1;wet", 6, 3);
    }

    /** Texts of 400 bytes: what stands at the end of the TAPE. */
    private static void wholeTape() {
        String blanks = " ".repeat(400);
        fine(blanks, 0);
        fine(blanks.substring(5) + "wet 3", 0);
        fine("wet 3" + blanks.substring(5), 0);
        fault(blanks.substring(3) + "wet", 400, 1);
        fault(blanks.substring(4) + "wet ", 400, 1);
        fault(blanks.substring(6) + "wet 3;", 400, 1);
        fault(blanks.substring(1) + "x", 399, 1);
        fault(";".repeat(400), 0, 1);
        fault("9".repeat(400), 0, 1);
        fault("wet " + "9".repeat(396), 4, 2);
        fine("wet " + "0".repeat(396), 0);
        fault("x".repeat(400), 0, 1);
    }

    private static void leavesAlone() {
        RiverCall x = Due.told(Due.CALLED);
        x.days(3);
        x.keep(1);
        x.order(0, 0, 5);
        String before = Due.letters(x);
        DUE.is("a fault", Due.tell(x, "reach mouth 1 1 1 1;wet 500"), -2 - (8 * 24 + 2));
        DUE.is("the same river", Due.letters(x), before);
        DUE.is("the same day", x.count(3), 3);
        DUE.is("the same acts", x.count(5), 2);
        DUE.is("the same orders", x.count(8), 1);
        DUE.is("another river", Due.tell(x, "reach mouth 7 7 7 7;right 0 9 0 359 age 3;wet 50"), 1);
        DUE.is("day 0", x.count(3), 0);
        DUE.is("no acts", x.count(5), 0);
        DUE.is("no undo", x.undo(), -1);
        DUE.is("no orders", x.count(8), 0);
        DUE.is("nothing on its way", x.gone(6), 0);
        DUE.is("nothing gone", x.gone(0), 0);
        DUE.is("no days gone", x.gone(7), 0);
        DUE.is("wet as told", x.count(4), 50);
        DUE.is("shelves stay", x.count(7), 2);
        DUE.is("took nothing", x.right(0, 12), 0);
        DUE.is("back to the shelf", x.back(1), 3);
        DUE.is("the river of the shelf", x.count(1), 2);
        DUE.is("a third river", Due.tell(x, "reach mouth 1 1 1 1;store 0 9 1 age 4"), 0);
        DUE.is("an empty store", x.gone(5), 0);
        DUE.is("its text", Due.letters(x), "reach mouth 1 1 1 1;store 0 9 1 age 4");
        x.days(2);
        DUE.is("a fourth river", Due.tell(x, ""), 0);
        DUE.is("its text", Due.letters(x), "");
        DUE.is("a fifth river", Due.tell(x, "reach mouth 1 1 1 1;store 0 9 1 age 4"), 0);
        DUE.is("an empty store again", x.gone(5), 0);
    }

    private static void letters() {
        RiverCall x = Due.told("wet 100;reach mouth 1 2 3 4 sink 0;store 0 5 6 age 7;"
            + "reach 0 0009 9 9 9999 sink 12;right 1 1 0 359 age 1 vol 999999 back 0 0 30;right 0 10 5 5 age 3");
        String reaches = "reach mouth 1 2 3 4;reach 0 9 9 9 9999 sink 12;";
        DUE.is("letter", Due.letters(x), reaches
            + "right 1 1 0 359 age 1 vol 999999 back 0 0 30;right 0 10 5 5 age 3;store 0 5 6 age 7");
        int length = x.letter(-1);
        DUE.is("first letter", x.letter(0), 'r');
        DUE.is("last letter", x.letter(length - 1), '7');
        DUE.is("behind the last", x.letter(length), -2);
        DUE.is("far behind", x.letter(Integer.MAX_VALUE), -2);
        DUE.is("below NONE", x.letter(-2), -1);
        DUE.is("far below", x.letter(Integer.MIN_VALUE), -1);
        x.trade(0, 1);
        x.days(5);
        DUE.is("moves", x.move(0, 0), 1);
        x.wet(0);
        x.demand(1, 3);
        DUE.is("letter as it is now", Due.letters(x), reaches
            + "right 0 1 0 359 age 3 vol 999999 back 0 0 30;right 0 10 5 5 age 1;store 0 5 6 age 7;wet 0");
        DUE.is("no letters", new RiverCall().letter(-1), 0);
        DUE.is("no first letter", new RiverCall().letter(0), -2);
        String least = "reach mouth 0 0 0 0 sink 1;right 0 1 0 0 age 0 vol 1 back 0 1 1";
        DUE.is("the least of all", Due.letters(Due.told(least)), least);
        RiverCall y = Due.told(Due.CALLED);
        DUE.is("letter of the river", Due.letters(y), Due.CALLED);
        RiverCall z = Due.told(Due.letters(y));
        DUE.is("told again", Due.letters(z), Due.CALLED);
    }
}
