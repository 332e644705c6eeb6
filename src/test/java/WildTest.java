import java.util.NoSuchElementException;
import java.util.Random;

/**
 * Promises 2 to 15: any call with any arguments in any state. It throws NoSuchElementException or nothing;
 * what is refused or only asked changes nothing; and a second object answers the same.
 */
public final class WildTest {
    private static final int[] ANY = {0, 1, 2, 3, 4, 5, 6, 7, 8, 11, 12, 20, 25, 26, 27, 63, 64, 65, 499, 500, 501, 2000, 2100,
        2101, 3999, 4000, 1999999999, 2000000000, 2000000001, Integer.MAX_VALUE - 1, Integer.MAX_VALUE, -1, -2, -3, -2000000000,
        Integer.MIN_VALUE + 1, Integer.MIN_VALUE};
    private static final String[] CALLS = {"feed", "end", "rules", "fault", "place", "take", "pass", "count", "alert", "key",
        "rule", "event", "pack", "octet"};
    private static final String THROWN = "NoSuchElementException";
    private static final String NOTHING = "nothing happens";

    private final Random random;
    private final WatchHouse house = new WatchHouse();
    private final WatchHouse second = new WatchHouse();

    private WildTest(int seed) {
        random = new Random(seed);
    }

    public static void main(String[] args) {
        int runs = args.length > 0 ? Integer.parseInt(args[0]) : 400;
        Kit.sentence(3, NOTHING);
        Kit.sentence(8, NOTHING);
        for (int seed = 0; seed < runs && Kit.wrong == 0; seed++) {
            new WildTest(seed).run(seed);
        }
        Kit.finish("WildTest");
    }

    private void run(int seed) {
        for (int k = 0; k < 250 && Kit.wrong == 0; k++) {
            if (random.nextInt(4) == 0) {
                putSomething();
            }
            String call = CALLS[random.nextInt(CALLS.length)];
            int[] with = {any(), any(), any(), any(), any()};
            String told = "seed " + seed + ", call " + k + ", " + call + " " + with[0] + " " + with[1] + " " + with[2];
            String before = stateOf(house, true);
            String kept = stateOf(house, false);
            String answer = answer(house, call, with);
            same(told + ": what a second one answers", answer(second, call, with), answer);
            boolean reads = call.equals("rules") || call.equals("take");
            if (refuses(call, answer)) {
                same(told + ": what stays", stateOf(house, !reads), reads ? kept : before);
            }
            if (reads) {
                same(told + ": tape", "" + house.count(6), "0");
            }
        }
        same("seed " + seed + ": the second one at last", stateOf(second, true), stateOf(house, true));
    }

    /** Whether a call that was answered so must leave all as it was; of rules() all but the tape and its FAULT. */
    private static boolean refuses(String call, String answer) {
        switch (call) {
            case "feed":
                return answer.equals("-1");
            case "end":
            case "pass":
                return answer.equals("false");
            case "rules":
                return answer.startsWith("-");
            case "take":
                return false;
            case "pack":
                return answer.equals(THROWN);
            default:
                return true;
        }
    }

    private static void same(String what, String got, String want) {
        if (!got.equals(want)) {
            System.out.println("got " + got + "\nnot " + want);
        }
        Kit.due(what, got.equals(want), true);
    }

    private int any() {
        return random.nextInt(6) == 0 ? random.nextInt() : ANY[random.nextInt(random.nextBoolean() ? 8 : ANY.length)];
    }

    /** Rules or records, so that there is something to ask for. */
    private void putSomething() {
        byte[] bytes;
        if (random.nextInt(5) == 0) {
            bytes = Kit.bytesOf(ModelTest.randomText(random));
        } else {
            bytes = new byte[0];
            for (int k = random.nextInt(20); k >= 0; k--) {
                String kind = random.nextBoolean() ? "x" : "y";
                byte[] record = Kit.record(random.nextInt(3), kind, "a", random.nextInt(3), "b", "text", "user", "u" + k % 2);
                bytes = Kit.join(bytes, record);
            }
        }
        for (WatchHouse one : new WatchHouse[] {house, second}) {
            one.end(0);
            Kit.put(one, bytes);
            if (bytes.length > 0 && bytes[0] == 'r') {
                one.rules();
            } else {
                one.take();
            }
        }
    }

    private static String answer(WatchHouse house, String call, int[] with) {
        try {
            switch (call) {
                case "feed":
                    return "" + house.feed(with[0], with[1], with[2], with[3], with[4]);
                case "end":
                    return "" + house.end(with[0]);
                case "rules":
                    return "" + house.rules();
                case "fault":
                    return "" + house.fault();
                case "place":
                    return "" + house.place();
                case "take":
                    return "" + house.take();
                case "pass":
                    return "" + house.pass(with[0]);
                case "count":
                    return "" + house.count(with[0]);
                case "alert":
                    return "" + house.alert(with[0], with[1]);
                case "key":
                    return "" + house.key(with[0], with[1], with[2]);
                case "rule":
                    return "" + house.rule(with[0], with[1]);
                case "event":
                    return "" + house.event(with[0], with[1]);
                case "pack":
                    return "" + house.pack(with[0]);
                default:
                    return "" + house.octet(with[0]);
            }
        } catch (NoSuchElementException e) {
            return e.getClass() == NoSuchElementException.class ? THROWN : thrown(call, e);
        } catch (RuntimeException e) {
            return thrown(call, e);
        }
    }

    private static String thrown(String call, RuntimeException e) {
        Kit.due(call + " throws no " + e, false, true);
        return "" + e;
    }

    /** All that can be asked, without changing what is packed; with the tape and the FAULT or without them. */
    private static String stateOf(WatchHouse house, boolean whole) {
        StringBuilder state = new StringBuilder();
        for (int what = 0; what <= 7; what++) {
            state.append(what == 6 && !whole ? "" : house.count(what) + " ");
        }
        state.append(whole ? house.fault() + " " + house.place() : "");
        for (int r = 0; r < house.count(0); r++) {
            state.append(" rule ").append(house.rule(r, 0)).append(' ').append(house.rule(r, 1));
        }
        for (int i = Math.max(0, Math.min(500, house.count(3)) - 5); i < Math.min(500, house.count(3)); i++) {
            state.append(" alert ");
            for (int what = 0; what <= 4; what++) {
                state.append(house.alert(i, what)).append(' ');
            }
        }
        for (int i = Math.max(0, house.count(1) - 64); i < house.count(1); i++) {
            state.append(" event ");
            for (int what = 0; what <= 3; what++) {
                state.append(house.event(i, what)).append(' ');
            }
        }
        state.append(" packed");
        for (int k = 0; k < house.count(7); k++) {
            state.append(' ').append(house.octet(k));
        }
        return state.toString();
    }
}
