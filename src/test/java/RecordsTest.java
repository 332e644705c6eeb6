import java.util.Random;

/** Promises 5, 6, 7: records, their faults and where these are. */
public final class RecordsTest {
    public static void main(String[] args) {
        coming();
        cutShort();
        badBytes();
        badUnsigned();
        badTimes();
        badCheck();
        faultsAndPlaces();
        anyBytes();
        Kit.finish("RecordsTest");
    }

    private static void bad(String name, byte[] bytes, int fault, int place) {
        WatchHouse house = new WatchHouse();
        Kit.due("take of " + name, Kit.take(house, bytes), 0);
        Kit.due("fault of " + name, house.fault(), fault);
        Kit.due("place of " + name, house.place(), place);
        Kit.due("tape behind " + name, house.count(6), 0);
        Kit.due("events behind " + name, house.count(1), 0);
        Kit.due("now behind " + name, house.count(5), 0);
    }

    private static void good(String name, byte[] bytes) {
        WatchHouse house = new WatchHouse();
        Kit.due("take of " + name, Kit.take(house, bytes), 1);
        Kit.due("fault of " + name, house.fault(), 0);
        Kit.due("place of " + name, house.place(), -1);
        house.pack(0);
        Kit.due("length of " + name, house.count(7), bytes.length);
        for (int k = 0; k < bytes.length; k++) {
            Kit.due("octet of " + name, house.octet(k), bytes[k] & 255);
        }
    }

    private static void coming() {
        good("the least", Kit.record(0, "a"));
        good("a time", Kit.record(2000000000, "abcdefghijkl"));
        good("127", Kit.record(127, "z"));
        good("128", Kit.record(128, "z"));
        good("ints", Kit.record(1, "a", "a", 0, "b", -1, "c", 1, "d", Integer.MAX_VALUE, "e", Integer.MIN_VALUE,
                "f", 63, "g", 64, "h", -64));
        good("texts", Kit.record(1, "a", "a", "", "aa", " ~", "ab", "123456789012345678901234", "b", "\"*"));
        good("addresses", Kit.record(1, "a", "abcdefgh", Kit.address(255, 0, 128, 1), "b", Kit.address(0, 0, 0, 0)));
        WatchHouse house = new WatchHouse();
        Kit.due("two", Kit.take(house, Kit.record(5, "a"), Kit.record(3, "b")), 2);
        Kit.due("one more", Kit.take(house, Kit.record(4, "c")), 1);
        Kit.due("time 0", house.event(0, 0), 5);
        Kit.due("time 1", house.event(1, 0), 8);
        Kit.due("time 2", house.event(2, 0), 12);
        Kit.due("now", house.count(5), 12);
    }

    private static void cutShort() {
        byte[] whole = Kit.record(300, "ab", "a", -300, "b", "xy", "c", Kit.address(1, 2, 3, 4));
        for (int length = 1; length < whole.length; length++) {
            bad("the first " + length, java.util.Arrays.copyOf(whole, length), 1, length);
        }
        good("the whole", whole);
        bad("an unsigned that does not end", Kit.bytes(229, 255, 255, 255, 255), 1, 5);
    }

    private static void badBytes() {
        byte[] whole = Kit.record(1, "ab", "b", 5, "bb", "xy", "c", Kit.address(1, 2, 3, 4));
        // 0: 229, 1: time, 2: 2 a b, 5: 3 fields, 6: 1 b, 8: sort, 9: 10, 10: 2 b b, 13: sort, 14: 2 x y, 17: 1 c, 19: sort
        change(whole, 0, 228, 2, 0);
        change(whole, 2, 0, 2, 2);
        change(whole, 2, 13, 2, 2);
        change(whole, 3, 'a' - 1, 2, 3);
        change(whole, 4, 'z' + 1, 2, 4);
        change(whole, 4, 'A', 2, 4);
        change(whole, 5, 9, 2, 5);
        change(whole, 6, 0, 2, 6);
        change(whole, 6, 9, 2, 6);
        change(whole, 7, '0', 2, 7);
        change(whole, 8, 3, 2, 8);
        change(whole, 8, 255, 2, 8);
        change(whole, 11, 'a', 2, 10);
        change(whole, 18, 'b', 2, 17);
        change(whole, 18, 'a', 2, 17);
        change(whole, 14, 25, 2, 14);
        change(whole, 15, 31, 2, 15);
        change(whole, 16, 127, 2, 16);
        change(whole, 16, 200, 2, 16);
        byte[] same = Kit.bytes(229, 0, 1, 'a', 2, 1, 'a', 0, 0, 1, 'a', 0, 0);
        bad("the same name", Kit.checked(same), 2, 9);
        byte[] shorter = Kit.bytes(229, 0, 1, 'a', 2, 2, 'a', 'a', 0, 0, 1, 'a', 0, 0);
        bad("a name that the one ahead goes on", Kit.checked(shorter), 2, 10);
        byte[] longer = Kit.bytes(229, 0, 1, 'a', 2, 1, 'a', 0, 0, 2, 'a', 'a', 0, 0);
        good("a name that goes on", Kit.checked(longer));
    }

    private static void change(byte[] whole, int at, int octet, int fault, int place) {
        byte[] changed = whole.clone();
        changed[at] = (byte) octet;
        byte[] body = java.util.Arrays.copyOf(changed, changed.length - 1);
        bad("byte " + at + " as " + octet, Kit.checked(body), fault, place);
    }

    private static byte[] timed(int... unsigned) {
        return Kit.checked(Kit.join(Kit.bytes(229), Kit.bytes(unsigned), Kit.bytes(1, 'a', 0)));
    }

    private static byte[] number(int... unsigned) {
        return Kit.checked(Kit.join(Kit.bytes(229, 0, 1, 'a', 1, 1, 'a', 0), Kit.bytes(unsigned)));
    }

    private static void badUnsigned() {
        good("0", number(0));
        good("128", number(128, 1));
        good("2^32 - 1", number(255, 255, 255, 255, 15));
        bad("0 in two", number(128, 0), 3, 8);
        bad("127 in two", number(255, 0), 3, 8);
        bad("0 in five", number(128, 128, 128, 128, 0), 3, 8);
        bad("2^32", number(128, 128, 128, 128, 16), 3, 8);
        bad("six bytes", number(128, 128, 128, 128, 128, 1), 3, 8);
        bad("a time in two", timed(129, 0), 3, 1);
        bad("a time of 2^32", timed(128, 128, 128, 128, 16), 3, 1);
        bad("a time of six bytes", timed(255, 255, 255, 255, 255, 1), 3, 1);
    }

    private static void badTimes() {
        bad("a time too late", Kit.record(2000000001, "a"), 3, 1);
        bad("the latest time of all", Kit.record(4294967295L, "a"), 3, 1);
        WatchHouse house = new WatchHouse();
        Kit.due("two, the second too late", Kit.take(house, Kit.record(1999999999, "a"), Kit.record(2, "a")), 1);
        Kit.due("fault", house.fault(), 3);
        Kit.due("place", house.place(), Kit.record(1999999999, "a").length + 1);
        Kit.due("the last second", Kit.take(house, Kit.record(1, "a")), 1);
        Kit.due("now", house.count(5), 2000000000);
        WatchHouse passed = new WatchHouse();
        passed.pass(10);
        Kit.due("below now", Kit.take(passed, Kit.record(9, "a")), 0);
        Kit.due("fault below now", passed.fault(), 3);
        Kit.due("place below now", passed.place(), 1);
        Kit.due("at now", Kit.take(passed, Kit.record(10, "a")), 1);
        passed.pass(20);
        Kit.due("less than now behind base", Kit.take(passed, Kit.record(9, "a")), 0);
        Kit.due("from base on, not from now", Kit.take(passed, Kit.record(15, "a")), 1);
        Kit.due("its time", passed.event(1, 0), 25);
    }

    private static void badCheck() {
        byte[] whole = Kit.record(1, "a", "b", 7);
        for (int add = 1; add < 256; add++) {
            byte[] changed = whole.clone();
            changed[whole.length - 1] += (byte) add;
            bad("a check off by " + add, changed, 4, whole.length - 1);
        }
        // the first along the bytes: a bad letter is ahead of a bad check
        byte[] both = whole.clone();
        both[3] = 'A';
        bad("a bad letter and check", both, 2, 3);
    }

    private static void faultsAndPlaces() {
        WatchHouse house = new WatchHouse();
        byte[] one = Kit.record(1, "a");
        Kit.due("two and a bad one", Kit.take(house, one, one, Kit.bytes(229, 1, 0), one), 2);
        Kit.due("fault", house.fault(), 2);
        Kit.due("place from the tape's first byte on", house.place(), 2 * one.length + 2);
        Kit.due("events", house.count(1), 2);
        Kit.due("now", house.count(5), 2);
        house.pass(3);
        Kit.due("fault behind pass", house.fault(), 2);
        Kit.due("place behind pass", house.place(), 2 * one.length + 2);
        Kit.due("an empty take", house.take(), 0);
        Kit.due("no fault", house.fault(), 0);
        Kit.due("no place", house.place(), -1);
        Kit.take(house, Kit.bytes(7));
        Kit.due("place 0", house.place(), 0);
        Kit.due("a text", house.rules(), 0);
        Kit.due("no fault of a text", house.fault(), 0);
        Kit.due("no place behind a text", house.place(), -1);
        Kit.take(house, Kit.bytes(7));
        Kit.due("a bad text", Kit.rules(house, "rule"), -5);
        Kit.due("fault of a text", house.fault(), 2);
        Kit.due("no place behind a bad text", house.place(), -1);
    }

    /** Whatever the bytes are, a call answers or throws what it may. */
    private static void anyBytes() {
        Random random = new Random(5);
        for (int run = 0; run < 3000; run++) {
            byte[] whole = Kit.join(Kit.record(1, "abc", "a", -5, "b", "text", "c", Kit.address(1, 2, 3, 4)),
                    Kit.record(2, "abc", "a", 70000));
            for (int k = random.nextInt(3); k >= 0; k--) {
                whole[random.nextInt(whole.length)] = (byte) random.nextInt(256);
            }
            WatchHouse house = new WatchHouse();
            int came = Kit.take(house, whole);
            Kit.due("came, counted", house.count(1), came);
            Kit.due("a fault, or all came", house.fault() != 0 || came == 2, true);
            Kit.due("a fault has a place", house.fault() == 0, house.place() == -1);
        }
    }
}
