import java.io.ByteArrayOutputStream;
import java.nio.charset.StandardCharsets;
import java.util.NoSuchElementException;

/** The example of README.md, which shows this file and what it prints. */
public final class Example {
    private static final String RULES = """
            rule brute count 3 of kind = fail by user within 10 quiet 20;
            rule breach chain alert brute then kind = login unless kind = reset by user within 60;
            rule stay lack kind = login then kind = logout by user within 300;
            """;

    public static void main(String[] args) {
        WatchHouse house = new WatchHouse();
        put(house, "rule wrong count 0 of has user within 5;".getBytes(StandardCharsets.ISO_8859_1));
        System.out.println("rules() " + house.rules() + ", fault() " + house.fault());
        put(house, RULES.getBytes(StandardCharsets.ISO_8859_1));
        System.out.println("rules() " + house.rules() + ", fault() " + house.fault());

        put(house, record(1, "fail", "ann"));
        put(house, record(3, "fail", "ann"));
        put(house, record(2, "fail", "ann"));
        put(house, record(1, "fail", "ann"));
        put(house, record(9, "login", "ann"));
        System.out.println("take() " + house.take() + ", NOW " + house.count(5));
        System.out.println("pass(400) " + house.pass(400) + ", NOW " + house.count(5));

        System.out.println("events " + house.count(1) + ", of these made by alerts " + house.count(2));
        System.out.println("alerts " + house.count(3) + ", hushed " + house.count(4));
        for (int i = 0; i < house.count(3); i++) {
            System.out.println("alert " + i + ": rule " + house.alert(i, 0) + " at " + house.alert(i, 1)
                    + ", from event " + house.alert(i, 2) + " to " + house.alert(i, 3)
                    + ", hushed " + house.alert(i, 4) + ", user " + text(house, i));
        }
        System.out.println("rule 0 holds " + house.rule(0, 0) + ", found " + house.rule(0, 1));
        System.out.println("event 3: made by rule " + house.event(3, 3) + ", of " + house.pack(3)
                + " bytes, the first " + house.octet(0));
        try {
            house.alert(3, 0);
        } catch (NoSuchElementException e) {
            System.out.println("alert 3: " + e.getClass().getSimpleName());
        }
    }

    /** Twenty bytes a feed; the last feed is filled up with zeros, which end cuts off. */
    private static void put(WatchHouse house, byte[] bytes) {
        int size = house.count(6) + bytes.length;
        for (int at = 0; at < bytes.length; at += 20) {
            int[] five = new int[5];
            for (int k = 0; k < 20; k++) {
                int octet = at + k < bytes.length ? bytes[at + k] & 255 : 0;
                five[k / 4] = five[k / 4] << 8 | octet;
            }
            house.feed(five[0], five[1], five[2], five[3], five[4]);
        }
        house.end(size);
    }

    /** A record with one field; after, the seconds since the record ahead, is below 128 here. */
    private static byte[] record(int after, String kind, String user) {
        ByteArrayOutputStream out = new ByteArrayOutputStream();
        out.write(229);
        out.write(after);
        word(out, kind);
        out.write(1);
        word(out, "user");
        out.write(1);
        word(out, user);
        out.write(check(out.toByteArray()));
        return out.toByteArray();
    }

    private static void word(ByteArrayOutputStream out, String letters) {
        out.write(letters.length());
        out.writeBytes(letters.getBytes(StandardCharsets.ISO_8859_1));
    }

    private static int check(byte[] bytes) {
        int c = 0;
        for (byte octet : bytes) {
            c ^= octet & 255;
            for (int bit = 0; bit < 8; bit++) {
                c = 2 * c;
                if (c > 255) {
                    c ^= 263;
                }
            }
        }
        return c;
    }

    /** The first value of the key of alert i, which is a text here. */
    private static String text(WatchHouse house, int i) {
        StringBuilder text = new StringBuilder();
        for (int k = 0; k < house.key(i, 0, 1); k++) {
            text.append((char) house.key(i, 0, 2 + k));
        }
        return text.toString();
    }
}
