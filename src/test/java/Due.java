import java.nio.charset.StandardCharsets;

/** Compares answers with those that are due, and ends a test. */
final class Due {
    static final String CALLED = "reach mouth 10 10 10 10;reach 0 50 20 0 0 sink 5;right 0 40 0 359 age 1;"
        + "right 1 30 0 359 age 5 back 0 50 2;store 1 100 20 age 9";

    private int wrong;

    void is(String call, long got, long want) {
        if (got != want) {
            wrong++;
            System.out.println(call + " answered " + got + ", due is " + want);
        }
    }

    void is(String call, String got, String want) {
        if (!got.equals(want)) {
            wrong++;
            System.out.println(call + " answered " + got + ", due is " + want);
        }
    }

    void end() {
        if (wrong != 0) {
            System.out.println(wrong + " answers are not as due");
            System.exit(1);
        }
    }

    /** Puts a text of bytes 0 to 255 behind an empty TAPE. */
    static void tape(RiverCall x, String text) {
        byte[] bytes = text.getBytes(StandardCharsets.ISO_8859_1);
        for (int i = 0; i < bytes.length; i += 20) {
            x.feed(number(bytes, i), number(bytes, i + 4), number(bytes, i + 8),
                number(bytes, i + 12), number(bytes, i + 16));
        }
        x.end(bytes.length);
    }

    private static int number(byte[] bytes, int from) {
        int number = 0;
        for (int i = from; i < from + 4; i++) {
            number = number << 8 | (i < bytes.length ? bytes[i] & 255 : 0);
        }
        return number;
    }

    static int tell(RiverCall x, String text) {
        tape(x, text);
        return x.tell();
    }

    static RiverCall told(String text) {
        RiverCall x = new RiverCall();
        int answer = tell(x, text);
        if (answer < 0) {
            throw new IllegalStateException("not a river: " + text + ": " + answer);
        }
        return x;
    }

    /** So many PARTS, # being the number of each. */
    static String many(String part, int n) {
        StringBuilder text = new StringBuilder();
        for (int i = 0; i < n; i++) {
            text.append(i == 0 ? "" : ";").append(part.replace("#", "" + i));
        }
        return text.toString();
    }

    /** Twelve REACHES, each running DOWN to the one ahead: the first as told, then the others behind their DOWN. */
    static String chain(String first, String others) {
        StringBuilder text = new StringBuilder(first);
        for (int i = 0; i < 11; i++) {
            text.append(";reach ").append(i).append(others);
        }
        return text.toString();
    }

    /** Any number of DAYS go by: the DAY it is then. */
    static int pass(RiverCall x, int days) {
        int day = x.count(3);
        for (int left = days; left > 0; left -= 60) {
            day = x.days(Math.min(left, 60));
        }
        return day;
    }

    /** All that can be told of what is so in an object, but for TAPE, SHELVES and ACTS that can be UNDONE. */
    static String whole(RiverCall x) {
        StringBuilder all = new StringBuilder();
        for (int what : new int[] {0, 1, 2, 3, 4, 8, 9}) {
            all.append(' ').append(x.count(what));
        }
        for (int i = 0; i < x.count(1); i++) {
            for (int what = 0; what <= 12; what++) {
                all.append(' ').append(x.right(i, what));
            }
        }
        for (int i = 0; i < x.count(2); i++) {
            for (int what = 0; what <= 6; what++) {
                all.append(' ').append(x.store(i, what));
            }
        }
        for (int i = 0; i < x.count(0); i++) {
            for (int what : new int[] {0, 1, 10, 11, 12, 13}) {
                all.append(' ').append(x.reach(i, what));
            }
            for (int days = 0; days < 30; days++) {
                all.append(' ').append(x.coming(i, days));
            }
        }
        for (int what = 0; what <= 7; what++) {
            all.append(' ').append(x.gone(what));
        }
        return all.toString();
    }

    static String letters(RiverCall x) {
        StringBuilder text = new StringBuilder();
        int length = x.letter(RiverCall.NONE);
        for (int k = 0; k < length; k++) {
            text.append((char) x.letter(k));
        }
        return text.toString();
    }
}
