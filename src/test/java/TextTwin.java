import java.util.ArrayList;
import java.util.HashSet;
import java.util.List;
import java.util.Map;
import java.util.Set;
import java.util.regex.Matcher;
import java.util.regex.Pattern;

/**
 * The TEXT, its FAULT and the RIVER as a TEXT once more, in their plainest form: the whole text is cut
 * into pieces, a pattern tells how far they can stand as they do, and only then NUMBERS are looked at.
 * It knows nothing of how RiverCall reads.
 */
final class TextTwin {
    private static final Pattern PIECES = Pattern.compile("[a-z]+|[0-9]+|[^a-z0-9 ]", Pattern.DOTALL);
    private static final Map<String, String> SIGNS = Map.of("reach", "R", "right", "r", "store", "s", "wet", "w",
        "mouth", "m", "sink", "k", "age", "a", "vol", "v", "back", "b", ";", ";");
    private static final String PART = "(?:R[mn]nnnn(?:kn)?|rnnnnan(?:vn)?(?:bnnn)?|snnnan|wn)";
    private static final Pattern TEXT = Pattern.compile("(?:" + PART + "(?:;" + PART + ")*)?E");

    /** A WORD, a NUMBER, one other byte, or the end of the text. */
    record Piece(int place, String text, String sign) {
        boolean isNumber() {
            return sign.equals("n");
        }
    }

    final List<Piece> pieces = new ArrayList<>();
    /** Of all places that are wrong: 8 times the place and the code. */
    private final List<Integer> faults = new ArrayList<>();
    private final Set<Integer> ages = new HashSet<>();
    int reaches;
    int rights;
    private int stores;
    private int wets;

    TextTwin(String text) {
        Matcher m = PIECES.matcher(text);
        while (m.find()) {
            boolean number = Character.isDigit(m.group().charAt(0));
            pieces.add(new Piece(m.start(), m.group(), number ? "n" : SIGNS.getOrDefault(m.group(), "?")));
        }
        pieces.add(new Piece(text.length(), "", "E"));
        int standing = standing();
        if (standing < pieces.size()) {
            faults.add(8 * pieces.get(standing).place + 1);
        }
        for (List<Piece> part : parts(pieces.subList(0, standing))) {
            lookAt(part);
        }
    }

    /** The least of all places, and of one place the least; 0 without a FAULT. */
    int fault() {
        return faults.stream().mapToInt(f -> f).min().orElse(0);
    }

    /** How many pieces from the first on can stand as they do. */
    private int standing() {
        StringBuilder signs = new StringBuilder();
        for (Piece piece : pieces) {
            signs.append(piece.sign);
            Matcher m = TEXT.matcher(signs);
            if (!m.matches() && !m.hitEnd()) {
                return signs.length() - 1;
            }
        }
        return pieces.size();
    }

    private static List<List<Piece>> parts(List<Piece> standing) {
        List<List<Piece>> parts = new ArrayList<>();
        parts.add(new ArrayList<>());
        for (Piece piece : standing) {
            if (piece.sign.equals(";")) {
                parts.add(new ArrayList<>());
            } else if (!piece.sign.equals("E")) {
                parts.get(parts.size() - 1).add(piece);
            }
        }
        parts.removeIf(List::isEmpty);
        return parts;
    }

    private void lookAt(List<Piece> part) {
        switch (part.get(0).text) {
            case "reach":
                many(part, ++reaches, 12);
                lookAtReach(part);
                break;
            case "right":
                many(part, ++rights, 14);
                lookAtRight(part);
                break;
            case "store":
                many(part, ++stores, 4);
                number(part, 1, 0, reaches - 1);
                number(part, 2, 1, 999999);
                number(part, 3, 1, 9999);
                age(part);
                break;
            default:
                many(part, ++wets, 1);
                number(part, 1, 0, 400);
                break;
        }
    }

    private void lookAtReach(List<Piece> part) {
        number(part, 1, 0, reaches - 2);
        for (int i = 2; i <= 5; i++) {
            number(part, i, 0, 9999);
        }
        number(part, 7, 0, 9999);
    }

    private void lookAtRight(List<Piece> part) {
        number(part, 1, 0, reaches - 1);
        number(part, 2, 1, 9999);
        number(part, 3, 0, 359);
        number(part, 4, 0, 359);
        if (part.size() > 4) {
            number(part, 4, value(part.get(3)), 359);
        }
        age(part);
        for (int i = 7; i < part.size(); i++) {
            if (part.get(i).text.equals("vol")) {
                number(part, i + 1, 1, 999999);
            }
            if (part.get(i).text.equals("back")) {
                number(part, i + 1, 0, reaches - 1);
                number(part, i + 2, 0, 100);
                number(part, i + 3, 1, 30);
            }
        }
    }

    private void many(List<Piece> part, int told, int most) {
        if (told > most) {
            faults.add(8 * part.get(0).place + 3);
        }
    }

    private void number(List<Piece> part, int i, long low, long high) {
        if (i >= part.size() || !part.get(i).isNumber()) {
            return;
        }
        long value = value(part.get(i));
        if (value < low || value > high) {
            faults.add(8 * part.get(i).place + 2);
        }
    }

    /** The NUMBER behind age: one of its own. */
    private void age(List<Piece> part) {
        for (int i = 0; i + 1 < part.size(); i++) {
            if (part.get(i).text.equals("age")) {
                number(part, i + 1, 0, 9999);
                if (!ages.add((int) value(part.get(i + 1)))) {
                    faults.add(8 * part.get(i + 1).place + 2);
                }
            }
        }
    }

    /** Beyond nine digits all are alike: greater than any NUMBER may be. */
    private static long value(Piece piece) {
        String digits = piece.text.replaceFirst("^0+(?=.)", "");
        return digits.length() > 9 ? 999999999 : Long.parseLong(digits);
    }

    /** The RIVER as letter() tells it, if this text tells one. */
    String letters() {
        StringBuilder all = new StringBuilder();
        for (String kind : new String[] {"reach", "right", "store", "wet"}) {
            for (List<Piece> part : parts(pieces)) {
                if (part.get(0).text.equals(kind)) {
                    String words = words(part);
                    all.append(all.length() == 0 || words.isEmpty() ? "" : ";").append(words);
                }
            }
        }
        return all.toString();
    }

    private static String words(List<Piece> part) {
        List<String> words = new ArrayList<>();
        for (Piece piece : part) {
            words.add(piece.isNumber() ? "" + value(piece) : piece.text);
        }
        String all = String.join(" ", words);
        return all.equals("wet 100") ? "" : all.replaceFirst(" sink 0$", "");
    }
}
