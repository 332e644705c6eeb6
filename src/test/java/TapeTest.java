/** Promises 1, 2, 3: a new object, feed, end; each test names the sentence that it stands for. */
public final class TapeTest {
    private static final int LEAST = Integer.MIN_VALUE;
    private static final int MOST = Integer.MAX_VALUE;

    public static void main(String[] args) {
        theLastOfItsCalls();
        none();
        aNewObject();
        timeOfANewObject();
        twentyBytes();
        behindTheTape();
        tooManyBytes();
        refusedBytes();
        keepingTheFirst();
        keepingTooMany();
        keepingOfAFullTape();
        Kit.finish("TapeTest");
    }

    private static void theLastOfItsCalls() {
        Kit.sentence(1, "What it is", "An object is used for at most 512 calls after it has been made");
        // two feeds, an end and rules(); then 169 times a feed, an end and a take(): 511 calls
        WatchHouse house = Kit.houseOf("rule a count 1 of has x within 1;");
        byte[] record = Kit.record(1, "k", "x", 1);
        for (int k = 0; k < 169; k++) {
            Kit.due("take " + k, Kit.take(house, record), 1);
        }
        Kit.due("the 512th call", house.count(1), 2 * 169);
    }

    private static void none() {
        Kit.sentence(1, "The public face", "public static final int NONE = -1;");
        Kit.due("NONE", WatchHouse.NONE, -1);
    }

    private static void aNewObject() {
        Kit.sentence(1, "No RULES, no EVENTS, an empty tape; NOW 0.");
        WatchHouse house = new WatchHouse();
        for (int what = 0; what <= 7; what++) {
            Kit.due("new count(" + what + ")", house.count(what), 0);
        }
        Kit.due("new fault", house.fault(), 0);
        Kit.due("new place", house.place(), -1);
        Kit.none("new rule", () -> house.rule(0, 0));
        Kit.none("new event", () -> house.event(0, 0));
        Kit.none("new alert", () -> house.alert(0, 0));
        Kit.none("new key", () -> house.key(0, 0, 0));
        Kit.none("new pack", () -> house.pack(0));
        Kit.none("new octet", () -> house.octet(0));
        Kit.due("nothing to keep", house.end(1), false);
        Kit.due("nothing to take", house.take(), 0);
        Kit.due("no rules to read", house.rules(), 0);
    }

    private static void timeOfANewObject() {
        Kit.sentence(1, "No RULES, no EVENTS, an empty tape; NOW 0.");
        Kit.due("pass(-1) of a new one", new WatchHouse().pass(-1), false);
        Kit.due("pass(0) of a new one", new WatchHouse().pass(0), true);
        WatchHouse house = new WatchHouse();
        Kit.due("a record of time 0", Kit.take(house, Kit.record(0, "a")), 1);
        Kit.due("its number is 0", house.event(0, 0), 0);
        Kit.due("without rules no alert", house.count(3), 0);
        WatchHouse later = new WatchHouse();
        Kit.due("the first time is told from 0 on", Kit.take(later, Kit.record(5, "a")), 1);
        Kit.due("now", later.count(5), 5);
    }

    private static void twentyBytes() {
        Kit.sentence(2, "Twenty bytes come behind the tape, four in each number, the highest first: how many it has");
        // a text of blanks but for one byte: its fault tells where that byte came
        for (int at = 0; at < 20; at++) {
            int[] five = {0x20202020, 0x0a0a0a0a, 0x20202020, 0x0a202020, 0x2020200a};
            int shift = 24 - at % 4 * 8;
            five[at / 4] = five[at / 4] & ~(255 << shift) | 200 << shift;
            WatchHouse house = new WatchHouse();
            Kit.due("feed", house.feed(five[0], five[1], five[2], five[3], five[4]), 20);
            Kit.due("the place of byte " + at, house.rules(), -1 - at);
        }
        WatchHouse all = new WatchHouse();
        byte[] record = Kit.record(0, "k", "a", Kit.address(255, 128, 127, 0));
        Kit.due("bytes above 127 at all places", Kit.take(all, record), 1);
        Kit.packs("the same bytes", all, 0, record);
    }

    private static void behindTheTape() {
        Kit.sentence(2, "Twenty bytes come behind the tape, four in each number, the highest first: how many it has");
        WatchHouse house = new WatchHouse();
        house.feed(0x20202020, 0x20202020, 0x20202020, 0x20202020, 0x20202020);
        house.end(3);
        Kit.due("behind three", house.feed(0x21212121, 0, 0, 0, 0), 23);
        Kit.due("the fourth byte is the first of these", house.rules(), -1 - 3);
        Kit.due("behind none", house.feed(0x21202020, 0, 0, 0, 0), 20);
        Kit.due("the first byte", house.rules(), -1);
    }

    private static void tooManyBytes() {
        Kit.sentence(2, "NONE, and none come, if it would have more than 2100.");
        WatchHouse house = new WatchHouse();
        for (int k = 1; k <= 105; k++) {
            Kit.due("feed " + k, house.feed(0, 0, 0, 0, 0), 20 * k);
        }
        Kit.due("2120 would be too many", house.feed(0, 0, 0, 0, 0), -1);
        Kit.due("none came", house.count(6), 2100);
        house.end(2081);
        Kit.due("2101 would be too many", house.feed(0, 0, 0, 0, 0), -1);
        Kit.due("none came again", house.count(6), 2081);
        house.end(2080);
        Kit.due("2100 are not", house.feed(0, 0, 0, 0, 0), 2100);
        house.end(0);
        Kit.due("none ahead of them", house.feed(0, 0, 0, 0, 0), 20);
    }

    private static void refusedBytes() {
        Kit.sentence(2, "NONE, and none come, if it would have more than 2100.");
        // 350 records of six bytes are a full tape, and not a byte of it may change
        byte[][] rows = new byte[350][];
        java.util.Arrays.fill(rows, Kit.record(0, "a"));
        byte[] full = Kit.join(rows);
        WatchHouse house = new WatchHouse();
        Kit.put(house, full);
        Kit.due("refused by a full tape", house.feed(-1, -1, -1, -1, -1), -1);
        Kit.due("as many as ahead of it", house.count(6), 2100);
        Kit.due("all records come", house.take(), 350);
        Kit.due("without a fault", house.fault(), 0);
        Kit.put(house, full);
        house.end(349 * 6);
        Kit.due("refused by one nearly full", house.feed(-1, -1, -1, -1, -1), -1);
        Kit.due("all but one come", house.take(), 349);
        Kit.due("without a fault again", house.fault(), 0);
    }

    private static void keepingTheFirst() {
        Kit.sentence(3, "The tape keeps its first n bytes: true");
        WatchHouse house = new WatchHouse();
        house.feed(0x20202021, 0x21212121, 0, 0, 0);
        Kit.due("end(20) of 20", house.end(20), true);
        Kit.due("all stay", house.count(6), 20);
        Kit.due("end(19) of 20", house.end(19), true);
        Kit.due("one is gone", house.count(6), 19);
        Kit.due("end(4)", house.end(4), true);
        Kit.due("four stay", house.count(6), 4);
        Kit.due("the first four", house.rules(), -1 - 3);
        house.feed(0x20202021, 0, 0, 0, 0);
        Kit.due("end(3)", house.end(3), true);
        Kit.due("the first three are blanks", house.rules(), 0);
        house.feed(0, 0, 0, 0, 0);
        Kit.due("end(0)", house.end(0), true);
        Kit.due("none stay", house.count(6), 0);
        Kit.due("end(0) of none", house.end(0), true);
    }

    private static void keepingTooMany() {
        Kit.sentence(3, "false, and nothing happens, if it has not so many, or n is below 0.");
        WatchHouse house = new WatchHouse();
        Kit.due("end(1) of none", house.end(1), false);
        Kit.due("end(-1) of none", house.end(-1), false);
        Kit.due("nothing came", house.count(6), 0);
        house.feed(1, 2, 3, 4, 5);
        for (int n : new int[] {21, 2100, 2101, MOST, -1, -20, LEAST}) {
            Kit.due("end(" + n + ") of 20", house.end(n), false);
            Kit.due("nothing happened", house.count(6), 20);
        }
        house.end(7);
        Kit.due("end(8) of 7: those cut off are gone", house.end(8), false);
        Kit.due("end(7) of 7", house.end(7), true);
    }

    private static void keepingOfAFullTape() {
        Kit.sentence(3, "false, and nothing happens, if it has not so many, or n is below 0.");
        WatchHouse house = new WatchHouse();
        for (int k = 1; k <= 105; k++) {
            house.feed(0, 0, 0, 0, 0);
        }
        Kit.due("end(2101) of a full tape", house.end(2101), false);
        Kit.due("end(2100) of a full tape", house.end(2100), true);
        Kit.due("full still", house.count(6), 2100);
        Kit.due("end(2099) of a full tape", house.end(2099), true);
        Kit.due("end(2100) of 2099", house.end(2100), false);
    }
}
