import java.util.ArrayList;
import java.util.List;
import java.util.Random;

/** Promises 4 and 5: texts of rules, most of them spoilt somewhere, read as the model of the grammar reads them. */
public final class TextModelTest {
    private static final String[] PIECES = {"rule", "by", "within", "quiet", "count", "of", "distinct", "sum", "chain",
        "then", "unless", "lack", "or", "and", "not", "kind", "has", "alert", "like", "in", "a", "b", "ra", "rb", "rc",
        "toolongword", "1", "0", "-1", "32", "33", "1000", "1001", "1000000", "1000001", "2147483647", "2147483648",
        "1x", "x1", "1.2.3.4", "1.2.3", "1.2.3.256", "01.002.3.4", "1.2.3.4.", "\"x\"", "\"", "\"\"", "(", ")", ",",
        ";", "/", "=", "!=", "<", "<=", ">", ">=", "!", ".", "-", "_", "A", "\t", "\n", "((((((", "not not not not",
        "then has a then has a", "or has b and", "rule z count 1 of has a within 1;"};

    private final Random random;

    private TextModelTest(int seed) {
        random = new Random(seed);
    }

    public static void main(String[] args) {
        int runs = args.length > 0 ? Integer.parseInt(args[0]) : 30000;
        int fine = 0;
        for (int seed = 0; seed < runs && Kit.wrong == 0; seed++) {
            fine += new TextModelTest(seed).run() ? 1 : 0;
        }
        Kit.due("some texts are fine, most are not", fine > runs / 50 && fine < runs / 2, true);
        Kit.finish("TextModelTest");
    }

    private boolean run() {
        String text = spoil(ModelTest.randomText(random));
        int want;
        int fault = 0;
        try {
            want = TextModel.read(text);
        } catch (TextModel.Fault e) {
            want = -1 - e.place;
            fault = e.kind;
        }
        WatchHouse house = new WatchHouse();
        Kit.due("rules of " + text, Kit.rules(house, text), want);
        Kit.due("fault of " + text, house.fault(), fault);
        return want >= 0;
    }

    private String piece() {
        return PIECES[random.nextInt(PIECES.length)];
    }

    private String spoil(String text) {
        List<String> parts = new ArrayList<>(List.of(text.split("(?<=[ ;()])")));
        for (int k = random.nextInt(3); k > 0 && !parts.isEmpty(); k--) {
            int at = random.nextInt(parts.size());
            switch (random.nextInt(6)) {
                case 0:
                    parts.remove(at);
                    break;
                case 1:
                    parts.add(at, piece() + (random.nextBoolean() ? " " : ""));
                    break;
                case 2:
                    parts.set(at, piece() + " ");
                    break;
                case 3:
                    parts.add(random.nextInt(parts.size()), parts.get(at));
                    break;
                case 4:
                    parts.set(at, " ".repeat(random.nextInt(1900)) + parts.get(at));
                    break;
                default:
                    parts.subList(at, parts.size()).clear();
                    break;
            }
        }
        if (random.nextInt(4) == 0 && !parts.isEmpty()) {
            putAcross(parts);
        }
        String joined = String.join("", parts);
        return joined.substring(0, Math.min(2100, joined.length()));
    }

    /** Blanks ahead of one part, so that it lies round place 2000, where a text has too many bytes. */
    private void putAcross(List<String> parts) {
        int at = random.nextInt(parts.size());
        String part = parts.get(at).strip();
        if (random.nextInt(4) == 0) {
            part = piece();
        }
        int ahead = String.join("", parts.subList(0, at)).length();
        int blanks = 2000 - random.nextInt(part.length() + 2) - ahead;
        parts.set(at, " ".repeat(Math.max(0, blanks)) + part + (random.nextBoolean() ? " " : ""));
    }
}
