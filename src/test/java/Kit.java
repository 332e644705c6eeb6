import java.io.ByteArrayOutputStream;
import java.nio.charset.StandardCharsets;
import java.util.HashSet;
import java.util.List;
import java.util.NoSuchElementException;
import java.util.Set;
import java.util.TreeMap;
import java.util.function.IntSupplier;

/** What the tests share: answers that are due, texts and records put on a tape. */
final class Kit {
    static int checks;
    static int wrong;
    private static final Set<String> SENTENCES = new HashSet<>();
    /** The promise and the words of the document that the answers asked for now stand for. */
    private static String stands = "";

    private Kit() {
    }

    /** What is asked from here on stands for these words of a promise. */
    static void sentence(int promise, String words) {
        sentence(promise, "Promise " + promise + ":", words);
    }

    /** The same for words that a promise leans on, and that stand in another part of the document. */
    static void sentence(int promise, String part, String words) {
        stands = "promise " + promise + ", " + part + " \"" + words + "\": ";
        SENTENCES.add(stands);
        due("these words in the document", Doc.says(part, words), true);
    }

    static void due(String call, long got, long want) {
        checks++;
        if (got != want) {
            tell(call + " answered " + got + ", due is " + want);
        }
    }

    private static void tell(String fault) {
        wrong++;
        System.out.println(stands + fault);
    }

    static void due(String call, boolean got, boolean want) {
        due(call, got ? 1 : 0, want ? 1 : 0);
    }

    /** The call must throw NoSuchElementException and nothing else. */
    static void none(String call, IntSupplier asked) {
        checks++;
        String got;
        try {
            got = "answered " + asked.getAsInt();
        } catch (NoSuchElementException e) {
            return;
        } catch (RuntimeException e) {
            got = "threw " + e;
        }
        tell(call + " " + got + ", due is a NoSuchElementException");
    }

    static void finish(String name) {
        String of = SENTENCES.isEmpty() ? "" : " of " + SENTENCES.size() + " sentences";
        System.out.println(name + ": " + checks + " answers" + of + " looked at, " + wrong + " not as due");
        if (wrong != 0) {
            System.exit(1);
        }
    }

    static byte[] bytesOf(String text) {
        return text.getBytes(StandardCharsets.ISO_8859_1);
    }

    /** Puts bytes behind an empty tape. */
    static void put(WatchHouse house, byte[] bytes) {
        for (int at = 0; at < bytes.length; at += 20) {
            int[] five = new int[5];
            for (int k = 0; k < 20; k++) {
                int octet = at + k < bytes.length ? bytes[at + k] & 255 : 0;
                five[k / 4] = five[k / 4] << 8 | octet;
            }
            house.feed(five[0], five[1], five[2], five[3], five[4]);
        }
        house.end(bytes.length);
    }

    static int rules(WatchHouse house, String text) {
        put(house, bytesOf(text));
        return house.rules();
    }

    static WatchHouse houseOf(String text) {
        WatchHouse house = new WatchHouse();
        int answer = rules(house, text);
        if (answer < 0) {
            due("rules of " + text, answer, 0);
        }
        return house;
    }

    static int take(WatchHouse house, byte[]... records) {
        put(house, join(records));
        return house.take();
    }

    static byte[] join(byte[]... parts) {
        ByteArrayOutputStream out = new ByteArrayOutputStream();
        for (byte[] part : parts) {
            out.write(part, 0, part.length);
        }
        return out.toByteArray();
    }

    static byte[] bytes(int... octets) {
        byte[] row = new byte[octets.length];
        for (int k = 0; k < octets.length; k++) {
            row[k] = (byte) octets[k];
        }
        return row;
    }

    /** Asks for the fault that a text of rules has: its kind and its place. */
    static void faulty(String text, int kind, int place) {
        WatchHouse house = new WatchHouse();
        due("rules of " + text, rules(house, text), -1 - place);
        due("fault of " + text, house.fault(), kind);
        due("place behind " + text, house.place(), -1);
        due("tape behind " + text, house.count(6), 0);
        due("rules held behind " + text, house.count(0), 0);
    }

    static void fine(String text, int count) {
        WatchHouse house = new WatchHouse();
        due("rules of " + text, rules(house, text), count);
        due("fault of " + text, house.fault(), 0);
        due("count(0) of " + text, house.count(0), count);
    }

    private static final String BEGIN = "rule a count 1 of ";

    /** A text of one rule with a cond. */
    static String cond(String cond) {
        return BEGIN + cond + " within 1;";
    }

    static void fineCond(String cond) {
        fine(cond(cond), 1);
    }

    /** A cond with a fault at a place within it. */
    static void faultyCond(String cond, int kind, int place) {
        faulty(cond(cond), kind, BEGIN.length() + place);
    }

    /** Bytes that are one record: it comes, and is packed to the same bytes again. */
    static void comes(String name, byte[] bytes) {
        WatchHouse house = new WatchHouse();
        due("take of " + name, take(house, bytes), 1);
        due("fault of " + name, house.fault(), 0);
        due("place of " + name, house.place(), -1);
        due("events behind " + name, house.count(1), 1);
        packs("pack of " + name, house, 0, bytes);
    }

    /** Bytes that have a fault at their first record: nothing comes of them. */
    static void stops(String name, byte[] bytes, int fault, int place) {
        WatchHouse house = new WatchHouse();
        due("take of " + name, take(house, bytes), 0);
        due("fault of " + name, house.fault(), fault);
        due("place of " + name, house.place(), place);
        due("tape behind " + name, house.count(6), 0);
        due("events behind " + name, house.count(1), 0);
        due("now behind " + name, house.count(5), 0);
    }

    /** Event i must be packed to these bytes. */
    static void packs(String call, WatchHouse house, int i, byte[] want) {
        int size = house.pack(i);
        due(call, size, want.length);
        due(call + " count(7)", house.count(7), want.length);
        for (int k = 0; k < Math.min(size, want.length); k++) {
            due(call + " octet(" + k + ")", house.octet(k), want[k] & 255);
        }
    }

    static void unsigned(ByteArrayOutputStream out, long amount) {
        long rest = amount;
        while (rest > 127) {
            out.write((int) (rest % 128) + 128);
            rest /= 128;
        }
        out.write((int) rest);
    }

    static int check(byte[] bytes, int length) {
        int c = 0;
        for (int k = 0; k < length; k++) {
            c ^= bytes[k] & 255;
            for (int bit = 0; bit < 8; bit++) {
                c = 2 * c;
                if (c > 255) {
                    c ^= 263;
                }
            }
        }
        return c;
    }

    /** The bytes with the CHECK of them behind. */
    static byte[] checked(byte[] bytes) {
        return join(bytes, bytes(check(bytes, bytes.length)));
    }

    /**
     * A record of a time after the one ahead, a kind, and fields as name and value in turn:
     * an Integer is an INT, a String a TEXT, a List of four numbers an ADDRESS.
     */
    static byte[] record(long after, String kind, Object... fields) {
        TreeMap<String, Object> sorted = new TreeMap<>();
        for (int k = 0; k < fields.length; k += 2) {
            sorted.put((String) fields[k], fields[k + 1]);
        }
        return recordOf(after, kind, sorted);
    }

    static byte[] recordOf(long after, String kind, TreeMap<String, Object> fields) {
        ByteArrayOutputStream out = new ByteArrayOutputStream();
        out.write(229);
        unsigned(out, after);
        word(out, kind);
        out.write(fields.size());
        for (String name : fields.keySet()) {
            word(out, name);
            value(out, fields.get(name));
        }
        return checked(out.toByteArray());
    }

    static void word(ByteArrayOutputStream out, String word) {
        out.write(word.length());
        out.writeBytes(bytesOf(word));
    }

    static void value(ByteArrayOutputStream out, Object value) {
        if (value instanceof Integer) {
            long v = (Integer) value;
            out.write(0);
            unsigned(out, v < 0 ? -2 * v - 1 : 2 * v);
        } else if (value instanceof String) {
            out.write(1);
            word(out, (String) value);
        } else {
            out.write(2);
            for (Object octet : (List<?>) value) {
                out.write((Integer) octet);
            }
        }
    }

    static List<Integer> address(int a, int b, int c, int d) {
        return List.of(a, b, c, d);
    }

    /** So many rules that each find every x, so that 4000 events come of few records. */
    static String fillers(int count) {
        StringBuilder text = new StringBuilder();
        for (int k = 0; k < count; k++) {
            text.append("rule f").append((char) ('a' + k)).append(" count 1 of kind = x within 1;");
        }
        return text.toString();
    }

    /** So many records of a kind come, as many at once as a tape has room for. */
    static void fill(WatchHouse house, int records, byte[] one) {
        int room = 2100 / one.length;
        for (int come = 0; come < records; come += room) {
            byte[][] row = new byte[Math.min(room, records - come)][];
            java.util.Arrays.fill(row, one);
            due("so many at once", take(house, row), row.length);
        }
    }

    /** Alert i of a house must be as told. */
    static void alert(WatchHouse house, int i, int rule, int time, int start, int event, int hushed) {
        String call = "alert(" + i + ", ";
        due(call + "0)", house.alert(i, 0), rule);
        due(call + "1)", house.alert(i, 1), time);
        due(call + "2)", house.alert(i, 2), start);
        due(call + "3)", house.alert(i, 3), event);
        due(call + "4)", house.alert(i, 4), hushed);
    }
}
