import java.io.ByteArrayOutputStream;
import java.util.ArrayList;
import java.util.Arrays;
import java.util.List;

/** A plain reader of records, written along the document: what came, or where it stopped and why. */
final class RecordModel {
    static final class Fault extends RuntimeException {
        private static final long serialVersionUID = 1;
        final int kind;
        final int place;

        Fault(int kind, int place) {
            this.kind = kind;
            this.place = place;
        }
    }

    /** The bytes of each record that came: packed again, it must have the same ones. */
    final List<byte[]> came = new ArrayList<>();
    final List<Long> times = new ArrayList<>();
    long now;
    int fault;
    int place;
    private long base;
    private byte[] bytes;
    private int at;

    int take(byte[] tape) {
        bytes = tape;
        at = 0;
        fault = 0;
        place = -1;
        int before = came.size();
        try {
            while (at < bytes.length) {
                int start = at;
                long time = readRecord();
                came.add(Arrays.copyOfRange(bytes, start, at));
                times.add(time);
                base = time;
                now = time;
            }
        } catch (Fault e) {
            fault = e.kind;
            place = e.place;
        }
        return came.size() - before;
    }

    private int octet() {
        if (at == bytes.length) {
            throw new Fault(1, bytes.length);
        }
        at++;
        return bytes[at - 1] & 255;
    }

    private int octet(int least, int most) {
        int octet = octet();
        if (octet < least || octet > most) {
            throw new Fault(2, at - 1);
        }
        return octet;
    }

    private String letters(int most) {
        StringBuilder word = new StringBuilder();
        for (int count = octet(1, most); count > 0; count--) {
            word.append((char) octet('a', 'z'));
        }
        return word.toString();
    }

    /** Its shortest form, made anew, must be the very bytes that stand there. */
    private long unsigned() {
        int start = at;
        long value = 0;
        long weight = 1;
        int octet;
        do {
            octet = octet();
            value += octet % 128 * weight;
            weight *= 128;
        } while (octet > 127 && at < start + 5);
        ByteArrayOutputStream shortest = new ByteArrayOutputStream();
        Kit.unsigned(shortest, value);
        boolean same = Arrays.equals(shortest.toByteArray(), Arrays.copyOfRange(bytes, start, at));
        if (!same || value >= 1L << 32) {
            throw new Fault(3, start);
        }
        return value;
    }

    private long readRecord() {
        int start = at;
        octet(229, 229);
        int timeAt = at;
        long time = base + unsigned();
        if (time > 2000000000L || time < now) {
            throw new Fault(3, timeAt);
        }
        letters(12);
        String ahead = "";
        for (int fields = octet(0, 8); fields > 0; fields--) {
            int nameAt = at;
            String name = letters(8);
            if (name.compareTo(ahead) <= 0) {
                throw new Fault(2, nameAt);
            }
            ahead = name;
            value();
        }
        int check = Kit.check(Arrays.copyOfRange(bytes, start, at), at - start);
        if (octet() != check) {
            throw new Fault(4, at - 1);
        }
        return time;
    }

    private void value() {
        switch (octet(0, 2)) {
            case 0:
                unsigned();
                break;
            case 1:
                for (int count = octet(0, 24); count > 0; count--) {
                    octet(32, 126);
                }
                break;
            default:
                for (int k = 0; k < 4; k++) {
                    octet();
                }
                break;
        }
    }
}
