import java.util.Arrays;
import java.util.Random;
import java.util.TreeMap;

/** Promises 5 to 8, 14, 15: records, many of them spoilt somewhere, read as the model reads them, and packed again. */
public final class RecordModelTest {
    private static final String[] SENTENCES = {"1: they end within one", "2: a byte that can't stand there",
        "3: an UNSIGNED that is above 2^32 - 1 or longer than need be", "4: the CHECK, if it is not as told"};
    /** Bytes at which something begins or ends to be right. */
    private static final int[] EDGES = {0, 1, 2, 3, 8, 9, 12, 13, 15, 16, 24, 25, 31, 32, 96, 97, 122, 123, 126, 127, 128,
        129, 228, 229, 230, 255};
    private static final int[] NUMBERS = {0, 1, -1, 63, 64, -64, -65, 8191, 8192, 1048575, 1048576, 134217727, 134217728,
        Integer.MAX_VALUE, Integer.MIN_VALUE};
    private static final int[] AFTER = {0, 1, 127, 128, 16383, 16384, 2097151, 2097152, 268435455, 268435456, 1000000000,
        2000000000, 2000000001};

    private final Random random;
    private final WatchHouse house = new WatchHouse();
    private final RecordModel model = new RecordModel();

    private RecordModelTest(int seed) {
        random = new Random(seed);
    }

    public static void main(String[] args) {
        int runs = args.length > 0 ? Integer.parseInt(args[0]) : 15000;
        int[] kinds = new int[5];
        for (int seed = 0; seed < runs && Kit.wrong == 0; seed++) {
            new RecordModelTest(seed).run(kinds);
        }
        for (int kind = 1; kind <= 4; kind++) {
            Kit.sentence(7, "1. EVENTS.", SENTENCES[kind - 1]);
            Kit.due("some have this fault", kinds[kind] > runs / 50, true);
        }
        Kit.due("some have none", kinds[0] > runs / 50, true);
        Kit.finish("RecordModelTest");
    }

    private void run(int[] kinds) {
        for (int k = 1 + random.nextInt(4); k > 0 && Kit.wrong == 0; k--) {
            if (random.nextInt(4) == 0) {
                pass((int) Math.min(2000000000, model.now + random.nextInt(3)));
            }
            take(tape());
            kinds[model.fault]++;
        }
        packLatest();
    }

    private void pass(int time) {
        Kit.due("pass(" + time + ")", house.pass(time), true);
        model.now = time;
    }

    private void take(byte[] tape) {
        String call = " of " + Arrays.toString(tape);
        Kit.due("take" + call, Kit.take(house, tape), model.take(tape));
        Kit.due("fault" + call, house.fault(), model.fault);
        Kit.due("place" + call, house.place(), model.place);
        Kit.due("events" + call, house.count(1), model.came.size());
        Kit.due("now" + call, house.count(5), model.now);
    }

    /** There are no rules, so the event ahead is always the record ahead. */
    private void packLatest() {
        int events = model.came.size();
        for (int i = Math.max(0, events - 63); i < events && Kit.wrong == 0; i++) {
            Kit.due("event(" + i + ", 0)", house.event(i, 0), model.times.get(i));
            Kit.packs("pack(" + i + ")", house, i, model.came.get(i));
        }
    }

    private byte[] tape() {
        byte[] tape = new byte[0];
        for (int k = random.nextInt(4); k >= 0; k--) {
            byte[] record = Kit.recordOf(after(), word(12), fields());
            if (random.nextInt(3) == 0) {
                byte[] body = spoil(Arrays.copyOf(record, record.length - 1));
                record = random.nextInt(8) == 0 ? spoil(record) : Kit.checked(body);
            }
            tape = Kit.join(tape, record);
        }
        return random.nextInt(6) == 0 ? Arrays.copyOf(tape, random.nextInt(tape.length + 1)) : tape;
    }

    private int after() {
        return random.nextInt(8) == 0 ? AFTER[random.nextInt(AFTER.length)] : random.nextInt(300);
    }

    private String word(int most) {
        int letters = random.nextInt(4) == 0 ? most : 1 + random.nextInt(3);
        StringBuilder word = new StringBuilder();
        for (int k = 0; k < letters; k++) {
            word.append((char) (random.nextInt(4) == 0 ? 'a' + random.nextInt(26) : random.nextBoolean() ? 'a' : 'z'));
        }
        return word.toString();
    }

    private TreeMap<String, Object> fields() {
        TreeMap<String, Object> fields = new TreeMap<>();
        for (int k = random.nextInt(random.nextInt(8) == 0 ? 9 : 4); k > 0; k--) {
            fields.put(word(8), value());
        }
        return fields;
    }

    private Object value() {
        switch (random.nextInt(3)) {
            case 0:
                return NUMBERS[random.nextInt(NUMBERS.length)];
            case 1:
                return " ~a\"*5".repeat(4).substring(0, random.nextInt(4) == 0 ? 24 : random.nextInt(4));
            default:
                return Kit.address(edge(), edge(), edge(), edge());
        }
    }

    private int edge() {
        return EDGES[random.nextInt(EDGES.length)];
    }

    /** One byte is another one, comes in, or is gone. */
    private byte[] spoil(byte[] bytes) {
        int at = random.nextInt(bytes.length);
        byte[] ahead = Arrays.copyOf(bytes, at);
        byte[] behind = Arrays.copyOfRange(bytes, at + 1, bytes.length);
        switch (random.nextInt(6)) {
            case 0:
                return Kit.join(ahead, behind);
            case 1:
                return Kit.join(ahead, Kit.bytes(edge(), bytes[at]), behind);
            case 2:
                return Kit.join(ahead, Kit.bytes(bytes[at] + (random.nextBoolean() ? 1 : -1)), behind);
            case 3:
                return Kit.join(ahead, Kit.bytes(random.nextInt(256)), behind);
            default:
                return Kit.join(ahead, Kit.bytes(edge()), behind);
        }
    }
}
