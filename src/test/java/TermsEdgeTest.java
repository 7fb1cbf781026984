/** The Terms, sentence by sentence: the limits of a RIVER, the TEXT that tells one, its FAULT. */
public final class TermsEdgeTest {
    private static final Edge EDGE = new Edge();
    private static final String REACH = "reach mouth 1 1 1 1";
    private static final String TWO = REACH + ";reach 0 1 1 1 1";
    /** At a REACH to which 9 come a DAY. */
    private static final String NINE = "reach mouth 9 9 9 9;";

    public static void main(String[] args) {
        year();
        reaches();
        rights();
        seasons();
        runningBack();
        stores();
        agesWetDemand();
        wholeText();
        parts();
        partsOfReachAndRight();
        partsOfStoreAndWet();
        toldAhead();
        wordsAndNumbers();
        firstPlace();
        cannotStand();
        notAsTold();
        oneMore();
        EDGE.end(Edge.TERMS);
    }

    private static void says(String words) {
        EDGE.says(Edge.TERMS, words);
    }

    private static void year() {
        says("A YEAR has DAYS 0 to 359, in QUARTERS of 90.");
        RiverCall x = Due.told("reach mouth 1 2 3 4");
        EDGE.are("day 0", "0 1", x.count(3), x.flow(0, 0));
        EDGE.are("day 89", "89 1", Due.pass(x, 89), x.flow(0, 0));
        EDGE.are("day 90", "90 2", x.days(1), x.flow(0, 0));
        EDGE.are("day 179", "179 2", Due.pass(x, 89), x.flow(0, 0));
        EDGE.are("day 180", "180 3", x.days(1), x.flow(0, 0));
        EDGE.are("day 269", "269 3", Due.pass(x, 89), x.flow(0, 0));
        EDGE.are("day 270", "270 4", x.days(1), x.flow(0, 0));
        EDGE.are("day 359", "359 4", Due.pass(x, 89), x.flow(0, 0));
        EDGE.are("day 0 again", "0 1", x.days(1), x.flow(0, 0));
    }

    private static void reaches() {
        says("REACHES 0, 1, .., 12 at most");
        EDGE.is("twelve", Due.told(Due.many(REACH, 12)).count(0), 12);
        EDGE.fault(Due.many(REACH, 13), 12 * 20, 3);
        says("each runs DOWN to one told ahead of it, or to the MOUTH");
        EDGE.range(TWO + ";reach ? 1 1 1 1", 0, 1);
        EDGE.fault("reach 0 1 1 1 1", 6, 2);
        EDGE.are("mouth, the first, the one ahead, mouth", "-2 0 1 -2", downs(TWO + ";reach 1 1 1 1 1;" + REACH));
        says("its INFLOW in each QUARTER (0 to 9999)");
        EDGE.range("reach mouth ? 1 1 1", 0, 9999);
        EDGE.range("reach mouth 1 ? 1 1", 0, 9999);
        EDGE.range("reach mouth 1 1 ? 1", 0, 9999);
        EDGE.range("reach mouth 1 1 1 ?", 0, 9999);
        says("its SINK (0 to 9999; 0 without)");
        EDGE.range(REACH + " sink ?", 0, 9999);
        EDGE.is("without", Due.told(REACH).reach(0, 1), 0);
        EDGE.is("sink 0", Due.told(REACH + " sink 0").reach(0, 1), 0);
        EDGE.is("without, behind one with", Due.told(REACH + " sink 5;" + REACH).reach(1, 1), 0);
        RiverCall x = Due.told(REACH + " sink 5");
        Due.tell(x, "");
        Due.tell(x, REACH);
        EDGE.is("without, told behind one with", x.reach(0, 1), 0);
    }

    private static long[] downs(String text) {
        RiverCall x = Due.told(text);
        return new long[] {x.reach(0, 0), x.reach(1, 0), x.reach(2, 0), x.reach(3, 0)};
    }

    private static void rights() {
        says("RIGHTS 0, 1, .., 14 at most");
        EDGE.fine(REACH + ";" + Due.many("right 0 1 0 0 age #", 14), 14);
        EDGE.fault(REACH + ";" + Due.many("right 0 1 0 0 age #", 15), 20 + 10 * 20 + 4 * 21, 3);
        says("a RATE (1 to 9999 a DAY)");
        EDGE.range(REACH + ";right 0 ? 1 1 age 1", 1, 9999);
        EDGE.is("9999", Due.told("reach mouth 9999 0 0 0;right 0 9999 0 0 age 1").takes(0, 0), 9999);
        EDGE.is("1", Due.told("reach mouth 9999 0 0 0;right 0 1 0 0 age 1").takes(0, 0), 1);
        says("an AGE (0 to 9999)");
        EDGE.range(REACH + ";right 0 1 0 0 age ?", 0, 9999);
        says("a VOLUME it may take in a YEAR (1 to 999999, or none)");
        EDGE.range(REACH + ";right 0 1 0 0 age 1 vol ?", 1, 999999);
        EDGE.is("none", Due.told(REACH + ";right 0 1 0 0 age 1").right(0, 5), -2);
        RiverCall x = Due.told(NINE + "right 0 5 0 359 age 1 vol 1;right 0 5 0 359 age 2 vol 999999;right 0 2 0 359 age 3");
        EDGE.are("all of it, much of it, none", "1 5 2", x.firm(0, 360, 0), x.takes(1, 0), x.takes(2, 0));
        RiverCall y = Due.told(REACH + ";right 0 1 0 0 age 1 vol 7");
        Due.tell(y, "");
        Due.tell(y, REACH + ";right 0 1 0 0 age 1");
        EDGE.is("none, told behind one with", y.right(0, 5), -2);
    }

    private static void seasons() {
        says("a SEASON (from a DAY to a DAY, both with it, the second not below the first)");
        EDGE.range(REACH + ";right 0 1 ? 359 age 1", 0, 359);
        EDGE.range(REACH + ";right 0 1 0 ? age 1", 0, 359);
        EDGE.range(REACH + ";right 0 1 7 ? age 1", 7, 359);
        RiverCall x = Due.told(REACH + ";right 0 1 5 7 age 1;right 0 1 359 359 age 2");
        EDGE.are("day 4", "4 0", Due.pass(x, 4), x.takes(0, 4));
        EDGE.are("day 5", "5 1", x.days(1), x.takes(0, 4));
        EDGE.are("day 7", "7 1", x.days(2), x.takes(0, 4));
        EDGE.are("day 8", "8 0", x.days(1), x.takes(0, 4));
        EDGE.are("day 358", "358 0", Due.pass(x, 350), x.takes(1, 4));
        EDGE.are("day 359", "359 1", x.days(1), x.takes(1, 4));
        EDGE.are("day 0", "0 0", x.days(1), x.takes(1, 4));
    }

    /** What RIGHT 0, which takes 9 a DAY, has on its way to a REACH behind one DAY. */
    private static long onWay(String back, int reach) {
        RiverCall x = Due.told(NINE + "reach 0 0 0 0 0;reach mouth 0 0 0 0;right 0 9 0 359 age 1 " + back);
        x.days(1);
        return x.gone(6) == 0 ? 0 : x.gone(6) * 100 + x.coming(reach, 0);
    }

    private static void runningBack() {
        says("what runs BACK: to a REACH (any)");
        EDGE.is("to its own", onWay("back 0 100 1", 0), 909);
        EDGE.is("to one above", onWay("back 1 100 1", 1), 909);
        EDGE.is("to one on another arm", onWay("back 2 100 1", 2), 909);
        EDGE.range(TWO + ";right 0 1 0 0 age 1 back ? 1 1", 0, 1);
        says("so many hundredths (0 to 100; 0 without) of what it takes on a DAY (downwards)");
        EDGE.range(REACH + ";right 0 1 0 0 age 1 back 0 ? 1", 0, 100);
        EDGE.is("without", Due.told(REACH + ";right 0 1 0 0 age 1").right(0, 8), 0);
        EDGE.is("none without", onWay("", 0), 0);
        EDGE.is("0 of 9", onWay("back 0 0 1", 0), 0);
        EDGE.is("11 hundredths of 9", onWay("back 0 11 1", 0), 0);
        EDGE.is("12 hundredths of 9", onWay("back 0 12 1", 0), 101);
        EDGE.is("99 hundredths of 9", onWay("back 0 99 1", 0), 808);
        EDGE.is("all of 9", onWay("back 0 100 1", 0), 909);
        EDGE.is("all of 9, in 30 days", onWay("back 0 100 30", 0), 900);
        RiverCall most = Due.told("reach mouth 9999 0 0 0;right 0 9999 0 359 age 1 back 0 99 1");
        most.days(1);
        EDGE.is("99 hundredths of 9999", most.gone(6), 9899);
        // 1 by (1), 1 by (2): half of each would be none, half of both is 1.
        RiverCall x = Due.told("reach mouth 2 1 0 0;store 0 9 1 age 1;right 0 2 0 359 age 2 back 0 50 30");
        x.days(1);
        x.order(0, 0, 1);
        EDGE.are("by (1), by (2)", "1 1", x.takes(0, 1), x.takes(0, 2));
        x.days(1);
        EDGE.is("of both together", x.coming(0, 29), 1);
        says("DELAY DAYS later (1 to 30)");
        EDGE.range(REACH + ";right 0 1 0 0 age 1 back 0 1 ?", 1, 30);
        RiverCall y = Due.told(NINE + "reach mouth 0 0 0 0;right 0 4 0 0 age 1 back 1 100 1;right 0 5 0 0 age 2 back 1 100 30");
        EDGE.are("day 0", "0 0", y.flow(1, 1), y.gone(6));
        EDGE.are("day 1", "1 4 9", y.days(1), y.flow(1, 1), y.gone(6));
        EDGE.are("day 2", "2 0 5", y.days(1), y.flow(1, 1), y.gone(6));
        EDGE.are("day 29", "29 0 5", y.days(27), y.flow(1, 1), y.gone(6));
        EDGE.are("day 30", "30 5 5", y.days(1), y.flow(1, 1), y.gone(6));
        EDGE.are("day 31", "31 0 0", y.days(1), y.flow(1, 1), y.gone(6));
        RiverCall z = Due.told(NINE + "right 0 4 359 359 age 1 back 0 100 1;right 0 5 359 359 age 2 back 0 100 30");
        Due.pass(z, 359);
        EDGE.are("over the year's end", "0 4 5", z.days(1), z.coming(0, 0), z.coming(0, 29));
    }

    private static void stores() {
        says("STORES 0 to 3");
        EDGE.is("four", Due.told(REACH + ";" + Due.many("store 0 1 1 age #", 4)).count(2), 4);
        EDGE.fault(REACH + ";" + Due.many("store 0 1 1 age #", 5), 20 + 4 * 18, 3);
        says("at a REACH, a SIZE (1 to 999999), a RATE, an AGE; CONTENT 0 at first.");
        EDGE.range(TWO + ";store ? 1 1 age 1", 0, 1);
        EDGE.range(REACH + ";store 0 ? 1 age 1", 1, 999999);
        EDGE.range(REACH + ";store 0 1 ? age 1", 1, 9999);
        EDGE.range(REACH + ";store 0 1 1 age ?", 0, 9999);
        EDGE.is("content", Due.told(REACH + ";store 0 1 1 age 1").store(0, 4), 0);
        RiverCall x = Due.told(REACH + ";store 0 1 1 age 1");
        x.days(1);
        Due.tell(x, REACH + ";store 0 1 1 age 1");
        EDGE.is("content of one told behind a full one", x.store(0, 4), 0);
    }

    /** The last NUMBER of the text is not as told. */
    private static void lastFault(String text) {
        EDGE.fault(text, text.lastIndexOf(' ') + 1, 2);
    }

    private static void agesWetDemand() {
        says("AGES of RIGHTS and STORES are unlike; the lesser is the older.");
        String right = ";right 0 1 0 0 age 5";
        lastFault(REACH + right + right);
        lastFault(REACH + right + ";store 0 1 1 age 5");
        lastFault(REACH + ";store 0 1 1 age 5" + right);
        lastFault(REACH + ";store 0 1 1 age 5;store 0 1 1 age 5");
        lastFault(REACH + right + ";right 0 1 0 0 age 6;right 0 1 0 0 age 005");
        lastFault(REACH + ";right 0 1 0 0 age 0;store 0 1 1 age 0");
        lastFault(REACH + ";right 0 1 0 0 age 9999;store 0 1 1 age 9999");
        EDGE.fine(REACH + right + ";store 0 1 1 age 4;right 0 1 0 0 age 6", 2);
        EDGE.is("the lesser", Due.told(REACH + right + ";right 0 1 0 0 age 4").takes(1, 0), 1);
        RiverCall again = Due.told(REACH + right);
        EDGE.is("an age of the river there was", Due.tell(again, REACH + right), 1);
        says("WET 0 to 400 (100 at first).");
        EDGE.range("wet ?", 0, 400);
        RiverCall x = new RiverCall();
        EDGE.is("of a new object", x.count(4), 100);
        x.wet(7);
        Due.tell(x, REACH);
        EDGE.is("of a river that tells none", x.count(4), 100);
        Due.tell(x, "wet 9");
        Due.tell(x, REACH);
        EDGE.is("behind one that tells one", x.count(4), 100);
        Due.tell(x, REACH);
        EDGE.is("once more", x.count(4), 100);
        Due.tell(x, "wet 9;x");
        Due.tell(x, REACH);
        EDGE.is("behind a text that is none", x.count(4), 100);
        says("DEMAND of a RIGHT: its RATE at first.");
        RiverCall y = Due.told(REACH + ";right 0 8 0 0 age 1");
        EDGE.is("at first", y.right(0, 10), 8);
        y.demand(0, 3);
        Due.tell(y, REACH + ";right 0 6 0 0 age 1");
        EDGE.is("of one told anew", y.right(0, 10), 6);
    }

    private static void wholeText() {
        says("A TEXT of at most 400 bytes tells a RIVER");
        String blanks = " ".repeat(400);
        EDGE.fine(blanks, 0);
        EDGE.is("400 bytes, the last ones", Due.told(blanks.substring(6) + "wet 37").count(4), 37);
        EDGE.is("400 bytes, the first ones", Due.told("wet 37" + blanks.substring(6)).count(4), 37);
        EDGE.is("twenty times twenty", Due.told("wet 40" + blanks.substring(6 + 20) + ";" + REACH).count(0), 1);
        says("[ PART { ; PART } ]");
        EDGE.fine("", 0);
        EDGE.fine(" ", 0);
        EDGE.fine("wet 5", 0);
        EDGE.fine("wet 5;" + REACH, 0);
        EDGE.fault(";", 0, 1);
        EDGE.fault(" ;", 1, 1);
        EDGE.fault(";wet 5", 0, 1);
        EDGE.fault("wet 5;", 6, 1);
        EDGE.fault("wet 5; ", 7, 1);
        EDGE.fault("wet 5;;" + REACH, 6, 1);
        EDGE.fault("wet 5 " + REACH, 6, 1);
        EDGE.fault("wet 5," + REACH, 5, 1);
    }

    private static void parts() {
        says("PART: reach DOWN");
        EDGE.fault("mouth", 0, 1);
        EDGE.fault("sink 5", 0, 1);
        EDGE.fault("age 5", 0, 1);
        EDGE.fault("5", 0, 1);
        EDGE.fault("Reach mouth 1 1 1 1", 0, 1);
        EDGE.fault("rEach mouth 1 1 1 1", 0, 1);
        EDGE.fault("r", 0, 1);
        EDGE.fault("reac", 0, 1);
    }

    /**
     * A PART behind what is told ahead: what is wrong if it ends behind one of its words, if one more stands behind it,
     * if one of them is another WORD, a sign, or a NUMBER too great. It is whole with so many words.
     */
    private static void spoil(String ahead, String part, int... whole) {
        String text = ahead + part;
        String[] words = part.split(" ");
        int place = ahead.length();
        for (int i = 0; i < words.length; i++) {
            String before = text.substring(0, place);
            String behind = text.substring(place + words[i].length());
            EDGE.fault(before + "x" + behind, place, 1);
            EDGE.fault(before + "-" + behind, place, 1);
            if (Character.isDigit(words[i].charAt(0))) {
                EDGE.fault(before + "1000000" + behind, place, 2);
                EDGE.fault(before + "4294967297" + behind, place, 2);
            } else {
                EDGE.fault(before + words[i] + "s" + behind, place, 1);
                EDGE.fault(before + words[i].toUpperCase() + behind, place, 1);
                EDGE.fault(before + words[i].substring(1) + behind, place, 1);
            }
            place += words[i].length();
            endBehind(text.substring(0, place), isWhole(i + 1, whole));
            place++;
        }
    }

    private static boolean isWhole(int words, int[] whole) {
        boolean found = false;
        for (int count : whole) {
            found |= count == words;
        }
        return found;
    }

    private static void endBehind(String text, boolean whole) {
        if (!whole) {
            EDGE.fault(text, text.length(), 1);
            EDGE.fault(text + "  ", text.length() + 2, 1);
            EDGE.fault(text + ";" + REACH, text.length(), 1);
            return;
        }
        EDGE.is("tell \"" + text + "\"", Math.min(0, Due.tell(new RiverCall(), text)), 0);
        EDGE.fault(text + " 1", text.length() + 1, 1);
        EDGE.fault(text + " mouth", text.length() + 1, 1);
        EDGE.fault(text + ";", text.length() + 1, 1);
    }

    private static void partsOfReachAndRight() {
        says("reach DOWN NUMBER NUMBER NUMBER NUMBER [ sink NUMBER ] (DOWN: mouth, or a NUMBER: a REACH told ahead)");
        spoil("", "reach mouth 1 2 3 4 sink 5", 6, 8);
        spoil(REACH + ";", "reach 0 1 2 3 4 sink 5", 6, 8);
        EDGE.fault(REACH + " sink 1 sink 1", 27, 1);
        EDGE.fault(REACH + " 1", 20, 1);
        says("right REACH RATE DAY DAY age NUMBER [ vol NUMBER ] [ back REACH NUMBER DELAY ]");
        spoil(REACH + ";", "right 0 5 0 9 age 1 vol 2 back 0 3 4", 7, 9, 13);
        spoil(REACH + ";", "right 0 5 0 9 age 1 back 0 3 4", 7, 11);
        EDGE.fault(REACH + ";right 0 5 0 9 age 1 back 0 3 4 vol 2", 20 + 31, 1);
        EDGE.fault(REACH + ";right 0 5 0 9 age 1 vol 2 vol 2", 20 + 26, 1);
        EDGE.fault(REACH + ";right 0 5 0 9 age 1 back 0 3 4 back 0 3 4", 20 + 31, 1);
        EDGE.fault(REACH + ";right 0 5 0 9 age 1 sink 2", 20 + 20, 1);
        EDGE.fault(REACH + ";right mouth 5 0 9 age 1", 20 + 6, 1);
        EDGE.fault(REACH + ";right 0 5 0 9 1", 20 + 14, 1);
    }

    private static void partsOfStoreAndWet() {
        says("store REACH SIZE RATE age NUMBER");
        spoil(REACH + ";", "store 0 5 6 age 7", 6);
        EDGE.fault(REACH + ";store 0 5 6 age 7 vol 8", 20 + 18, 1);
        EDGE.fault(REACH + ";store mouth 5 6 age 7", 20 + 6, 1);
        EDGE.fault(REACH + ";store 0 5 6 7", 20 + 12, 1);
        says("wet NUMBER (once at most)");
        spoil("", "wet 5", 2);
        spoil(REACH + ";", "wet 5", 2);
        EDGE.fault("wet 5;wet 5", 6, 3);
        EDGE.fault("wet 5;" + REACH + ";wet 6", 26, 3);
        RiverCall x = Due.told("wet 5");
        EDGE.is("once in each text", Due.tell(x, "wet 6"), 0);
    }

    private static void toldAhead() {
        says("REACHES of right, back, store: told ahead.");
        EDGE.fault("right 0 5 0 9 age 1;" + REACH, 6, 2);
        EDGE.fault("store 0 5 6 age 1;" + REACH, 6, 2);
        EDGE.fault(REACH + ";right 1 5 0 9 age 1;" + REACH, 20 + 6, 2);
        EDGE.fault(REACH + ";store 1 5 6 age 1;" + REACH, 20 + 6, 2);
        EDGE.fault(REACH + ";right 0 5 0 9 age 1 back 1 5 6;" + REACH, 20 + 25, 2);
        EDGE.fine(TWO + ";right 1 5 0 9 age 1 back 1 5 6;store 1 5 6 age 2", 1);
        RiverCall x = Due.told(TWO);
        EDGE.is("of the river there was", Due.tell(x, REACH + ";right 1 5 0 9 age 1"), -2 - (8 * 26 + 2));
    }

    private static void wordsAndNumbers() {
        says("WORDS are small letters, NUMBERS digits, as far as they go on");
        EDGE.fault("reachmouth 1 1 1 1", 0, 1);
        EDGE.fault("reach mouthsink 1 1 1", 6, 1);
        EDGE.fault("weta 5", 0, 1);
        EDGE.fault("wetz 5", 0, 1);
        EDGE.fault("wet` 5", 3, 1);
        EDGE.fault("wet{ 5", 3, 1);
        EDGE.fault("wetX 5", 3, 1);
        EDGE.fault("wet /", 4, 1);
        EDGE.fault("wet :", 4, 1);
        EDGE.fault("wet 5/", 5, 1);
        EDGE.fault("wet 5:", 5, 1);
        EDGE.fault("wet 5x", 5, 1);
        EDGE.fault("wet +5", 4, 1);
        EDGE.fault("wet 5.0", 5, 1);
        EDGE.fault("reach mouth 1111", 16, 1);
        EDGE.is("all digits", Due.told("reach mouth 1234 5678 9 0").reach(0, 10) * 10000L
            + Due.told("reach mouth 1234 5678 9 0").reach(0, 11), 12345678);
        EDGE.is("zeros ahead", Due.told("wet 0000000000000000000000000000037").count(4), 37);
        EDGE.fault("wet " + "9".repeat(396), 4, 2);
        EDGE.fault("wet 10000000000000000000000000000000000000000000000000000000000000000", 4, 2);
        says("blanks (32) stand between as one likes");
        EDGE.fine("reach mouth1 1 1 1sink2;right0 5 0 8age1vol3back0 4 5;store0 1 1age2;wet5", 1);
        EDGE.fine("  reach   mouth  1 1 1  1  sink  2  ;  right 0 5 0 8 age 1  ;  wet 5  ", 1);
        for (int sign : new int[] {0, 9, 10, 13, 31, 33, 127, 128, 160, 255}) {
            EDGE.fault("wet" + (char) sign + "5", 3, 1);
            EDGE.fault("wet 5" + (char) sign, 5, 1);
            EDGE.fault((char) sign + "wet 5", 0, 1);
        }
    }

    private static void firstPlace() {
        says("of the first place along it that is wrong (0 the first byte), 8 times the place and");
        EDGE.is("place 0", Due.tell(new RiverCall(), "x"), -2 - 1);
        EDGE.is("place 1", Due.tell(new RiverCall(), " x"), -2 - 9);
        EDGE.is("place 399", Due.tell(new RiverCall(), " ".repeat(399) + "x"), -2 - 8 * 399 - 1);
        EDGE.fault("wet 401 x", 4, 2);
        EDGE.fault("wet 401;wet 5", 4, 2);
        EDGE.fault("reach mouth 10000 1 1", 12, 2);
        EDGE.fault("reach 0 10000 1 1 1", 6, 2);
        EDGE.fault(REACH + ";right 0 0 400 0 age", 28, 2);
        EDGE.fault(REACH + ";right 0 1 400 0 age", 30, 2);
        EDGE.fault(REACH + ";right 0 1 9 8 edge 1", 32, 2);
        EDGE.fault(REACH + ";right 1 1 9 8 age 1 vol 0 back 7 101 31", 26, 2);
    }

    private static void cannotStand() {
        says("1 a byte or WORD that cannot stand there, or the text ends (the place behind its last byte)");
        EDGE.fault("wet", 3, 1);
        EDGE.fault("wet   ", 6, 1);
        EDGE.fault(" ".repeat(397) + "wet", 400, 1);
        EDGE.fault("wet 5;" + " ".repeat(394), 400, 1);
        EDGE.fault("wet sink", 4, 1);
        EDGE.fault("wet ;", 4, 1);
        EDGE.fault("wet 5 sink", 6, 1);
        EDGE.fault("wet 5 5", 6, 1);
        EDGE.fault("reach top 1 1 1 1", 6, 1);
    }

    private static void notAsTold() {
        says("2 a NUMBER (where it begins) that is not as told (a REACH that was not told ahead, a second DAY below the first,"
            + " an AGE that is there, too)");
        EDGE.fault("wet 0000401", 4, 2);
        EDGE.fault("wet    401", 7, 2);
        EDGE.fault("wet401", 3, 2);
        EDGE.fault(REACH + ";reach 1 1 1 1 1", 26, 2);
        EDGE.fault(REACH + ";right 0 1 200 199 age 1", 34, 2);
        EDGE.fault(REACH + ";right 0 1 1 0 age 1", 32, 2);
        lastFault(REACH + ";store 0 1 1 age 3;right 0 1 1 1 age   3");
    }

    private static void oneMore() {
        says("3 the WORD of one REACH, RIGHT, STORE more than there may be, of a second wet.");
        EDGE.fault(Due.many(REACH, 12) + ";  reach", 242, 3);
        EDGE.fault(REACH + ";" + Due.many("right 0 1 0 0 age #", 14) + "; right", 305, 3);
        EDGE.fault(REACH + ";" + Due.many("store 0 1 1 age #", 4) + "; store", 93, 3);
        EDGE.fault("wet 5; wet", 7, 3);
        EDGE.fault("wet 5; wet 401", 7, 3);
        EDGE.fault(Due.many(REACH, 12) + ";reach 99 x", 240, 3);
        says("Of one place the least.");
        EDGE.fault(Due.many(REACH, 12) + ";reachs", 240, 1);
        EDGE.fault("wet 5;wets", 6, 1);
        EDGE.fault("wet 5 wet 6", 6, 1);
        EDGE.fault(Due.many(REACH, 12) + " " + REACH, 240, 1);
    }
}
