/** Promises 1, 2, 3: a new object, feed, end. */
public final class TapeTest {
    public static void main(String[] args) {
        aNewObject();
        feeding();
        ending();
        Kit.finish("TapeTest");
    }

    private static void aNewObject() {
        WatchHouse house = new WatchHouse();
        for (int what = 0; what <= 7; what++) {
            Kit.due("new count(" + what + ")", house.count(what), 0);
        }
        Kit.due("new fault", house.fault(), 0);
        Kit.due("new place", house.place(), WatchHouse.NONE);
        Kit.none("new alert", () -> house.alert(0, 0));
        Kit.none("new key", () -> house.key(0, 0, 0));
        Kit.none("new rule", () -> house.rule(0, 0));
        Kit.none("new event", () -> house.event(0, 0));
        Kit.none("new pack", () -> house.pack(0));
        Kit.none("new octet", () -> house.octet(0));
        Kit.due("new take", house.take(), 0);
        Kit.due("new rules", house.rules(), 0);
        WatchHouse other = new WatchHouse();
        Kit.due("without rules a record comes", Kit.take(other, Kit.record(5, "a")), 1);
        Kit.due("without rules it is an event", other.count(1), 1);
        Kit.due("without rules there is a now", other.count(5), 5);
        Kit.due("without rules no alert", other.count(3), 0);
    }

    private static void feeding() {
        WatchHouse house = new WatchHouse();
        for (int k = 1; k <= 105; k++) {
            Kit.due("feed " + k, house.feed(0, 0, 0, 0, 0), 20 * k);
        }
        Kit.due("feed beyond 2100", house.feed(0, 0, 0, 0, 0), WatchHouse.NONE);
        Kit.due("none came", house.count(6), 2100);
        house.end(2081);
        Kit.due("feed one byte too much", house.feed(1, 2, 3, 4, 5), WatchHouse.NONE);
        Kit.due("none came again", house.count(6), 2081);
        house.end(2080);
        Kit.due("feed to the brim", house.feed(1, 2, 3, 4, 5), 2100);
        theHighestByteFirst();
    }

    private static void theHighestByteFirst() {
        WatchHouse house = new WatchHouse();
        // 229, 0, 1, 'a', 0 and the check stand in the first six bytes; the highest bit is no sign.
        byte[] record = Kit.record(0, "a");
        int first = (record[0] & 255) << 24 | (record[1] & 255) << 16 | (record[2] & 255) << 8 | record[3] & 255;
        int second = (record[4] & 255) << 24 | (record[5] & 255) << 16;
        house.feed(first, second, -1, -1, -1);
        house.end(6);
        Kit.due("take of fed bytes", house.take(), 1);
        Kit.due("letters", house.event(0, 1), 1);
        house.feed(0x20202020, 0x0a0a0a0a, 0x20202020, 0x20202020, 0x20202021);
        Kit.due("the last byte of the last number", house.rules(), -1 - 19);
    }

    private static void ending() {
        WatchHouse house = new WatchHouse();
        Kit.due("end(0) of nothing", house.end(0), true);
        Kit.due("end(1) of nothing", house.end(1), false);
        house.feed(1, 2, 3, 4, 5);
        Kit.due("end(-1)", house.end(-1), false);
        Kit.due("end(least)", house.end(Integer.MIN_VALUE), false);
        Kit.due("end(21)", house.end(21), false);
        Kit.due("end(most)", house.end(Integer.MAX_VALUE), false);
        Kit.due("nothing happened", house.count(6), 20);
        Kit.due("end(20)", house.end(20), true);
        Kit.due("all stay", house.count(6), 20);
        Kit.due("end(3)", house.end(3), true);
        Kit.due("three stay", house.count(6), 3);
        Kit.due("feed behind them", house.feed(0, 0, 0, 0, 0), 23);
        Kit.due("end(0)", house.end(0), true);
        Kit.due("none stay", house.count(6), 0);
    }
}
