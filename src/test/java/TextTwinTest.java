import java.util.ArrayList;
import java.util.List;
import java.util.Random;

/** Texts, right and wrong ones, the same in each run of this test, told to RiverCall and to TextTwin. */
public final class TextTwinTest {
    private static final Due DUE = new Due();
    private static final String[] ODD_PIECES = {"reach", "right", "store", "wet", "mouth", "sink", "age", "vol", "back", ";", "",
        "0", "1", "x", "reac", "A", "-", "\0", "\t", "\n", "\u00ff", "\u00a0", "\u0081", ":", "`", "{", "/"};
    private static final String[] ODD_NUMBERS = {"0", "1", "7", "12", "30", "31", "100", "101", "359", "360", "400", "401", "9999",
        "10000", "999999", "1000000", "2147483648", "4294967296", "99999999999999999999", "000000000000001"};

    private final Random random;
    private int reaches;
    private int age;
    private boolean wetTold;

    private TextTwinTest(long seed) {
        random = new Random(seed);
    }

    public static void main(String[] args) {
        int runs = args.length > 0 ? Integer.parseInt(args[0]) : 20000;
        int[] seen = new int[4];
        for (int seed = 1; seed <= runs; seed++) {
            seen[new TextTwinTest(seed).run()]++;
        }
        for (int code = 0; code < 4; code++) {
            DUE.is("texts with fault " + code + " are among them", seen[code] >= runs / 100 ? 1 : 0, 1);
        }
        DUE.end();
    }

    private int from(int low, int high) {
        return low + random.nextInt(high - low + 1);
    }

    private boolean oneIn(int n) {
        return random.nextInt(n) == 0;
    }

    /** The code of the FAULT, 0 without one. */
    private int run() {
        List<String> pieces = river();
        int changes = oneIn(3) ? 0 : from(1, 2);
        for (int i = 0; i < changes; i++) {
            change(pieces);
        }
        String text = join(pieces);
        if (text.length() > 400) {
            text = text.substring(0, 400);
        }
        look(text);
        return new TextTwin(text).fault() % 8;
    }

    private static void look(String text) {
        TextTwin twin = new TextTwin(text);
        RiverCall x = Due.told(Due.CALLED);
        int fault = twin.fault();
        DUE.is("tell \"" + text + "\"", Due.tell(x, text), fault == 0 ? twin.rights : -2 - fault);
        DUE.is("the river behind \"" + text + "\"", Due.letters(x), fault == 0 ? twin.letters() : Due.CALLED);
        DUE.is("the tape behind \"" + text + "\"", x.count(6), 0);
    }

    private List<String> river() {
        List<String> pieces = new ArrayList<>();
        boolean many = oneIn(8);
        int parts = many ? from(10, 20) : from(0, 8);
        int loved = from(0, 2);
        for (int i = 0; i < parts; i++) {
            if (i > 0) {
                pieces.add(";");
            }
            part(pieces, many && !oneIn(8) ? loved : from(0, 3));
        }
        return pieces;
    }

    private void part(List<String> pieces, int kind) {
        if (reaches == 0 || kind == 0 || kind == 3 && wetTold && !oneIn(6)) {
            add(pieces, "reach", reaches == 0 || oneIn(4) ? "mouth" : "" + from(0, reaches - 1));
            add(pieces, "" + from(0, 9), "" + from(0, 99), "0", oneIn(5) ? "9999" : "" + from(0, 9));
            reaches++;
            if (oneIn(4)) {
                add(pieces, "sink", oneIn(4) ? "0" : "" + from(1, 99));
            }
        } else if (kind == 1) {
            int first = from(0, 359);
            add(pieces, "right", "" + from(0, reaches - 1), "" + from(1, 9), "" + first, "" + from(first, 359), "age", nextAge());
            if (oneIn(4)) {
                add(pieces, "vol", oneIn(3) ? "999999" : "" + from(1, 99));
            }
            if (oneIn(4)) {
                add(pieces, "back", "" + from(0, reaches - 1), "" + from(0, 100), "" + from(1, 30));
            }
        } else if (kind == 2) {
            add(pieces, "store", "" + from(0, reaches - 1), oneIn(3) ? "999999" : "" + from(1, 99), "" + from(1, 99), "age", nextAge());
        } else {
            add(pieces, "wet", oneIn(3) ? "100" : "" + from(0, 400));
            wetTold = true;
        }
    }

    private String nextAge() {
        age += oneIn(40) ? 0 : from(1, 3);
        return "" + age;
    }

    private static void add(List<String> pieces, String... more) {
        pieces.addAll(List.of(more));
    }

    private void change(List<String> pieces) {
        int place = from(0, pieces.size());
        boolean behind = place == pieces.size();
        switch (from(0, 5)) {
            case 0:
                pieces.add(place, oneOf(ODD_PIECES));
                break;
            case 1: case 2:
                if (!behind) {
                    pieces.set(place, another(pieces.get(place)));
                }
                break;
            case 3:
                pieces.subList(place, behind ? place : place + 1).clear();
                break;
            case 4:
                pieces.replaceAll(p -> p.matches("[0-9]{1,9}") && oneIn(12) ? "" + (Long.parseLong(p) + from(-1, 1)) : p);
                break;
            default:
                pieces.subList(place, pieces.size()).clear();
                break;
        }
    }

    private String oneOf(String[] all) {
        return all[random.nextInt(all.length)];
    }

    private String another(String piece) {
        if (oneIn(3)) {
            return oneOf(ODD_PIECES);
        }
        return piece.matches("[0-9]+") ? oneOf(ODD_NUMBERS) : piece + "az`{A0".charAt(random.nextInt(6));
    }

    /** Blanks as one likes, but between two WORDS or two NUMBERS one at least, nearly always. */
    private String join(List<String> pieces) {
        StringBuilder text = new StringBuilder(" ".repeat(oneIn(6) ? from(1, 3) : 0));
        int fewest = from(0, 1);
        for (String piece : pieces) {
            int blanks = piece.equals(";") ? 0 : fewest;
            if (text.length() > 0 && !piece.isEmpty() && clings(text.charAt(text.length() - 1), piece.charAt(0))) {
                blanks = oneIn(300) ? 0 : 1;
            }
            text.append(" ".repeat(oneIn(20) ? blanks + 1 : blanks)).append(piece);
        }
        return text.append(" ".repeat(oneIn(6) ? from(1, 3) : 0)).toString();
    }

    private static boolean clings(char one, char other) {
        return Character.isLetter(one) && Character.isLetter(other) || Character.isDigit(one) && Character.isDigit(other);
    }
}
