import java.util.ArrayList;
import java.util.NoSuchElementException;

/**
 * A watch over a log of events: records of bytes are read to events, and rules in a language of
 * their own find counts, different values, sums, chains and what fails to come.
 */
public final class WatchHouse {
    public static final int NONE = -1;

    private static final int TAPE_MOST = 2100;
    private static final int TEXT_MOST = 2000;
    private static final int TIME_MOST = 2000000000;
    private static final int EVENTS_MOST = 4000;
    private static final int TOLD_MOST = 500;
    private static final int LATEST = 64;
    private static final int RULES_MOST = 12;
    private static final int BY_MOST = 3;
    private static final int CONDS_MOST = 5;
    private static final int FIELDS_MOST = 8;
    private static final int KIND_LETTERS = 12;
    private static final int NAME_LETTERS = 8;
    private static final int BYTES_MOST = 24;
    private static final int NESTED_MOST = 12;
    private static final int COUNT_MOST = 1000;
    private static final int SUM_MOST = 2147483647;
    private static final int SECONDS_MOST = 1000000;
    private static final int BITS_MOST = 32;

    /** The bytes of a value that is no TEXT. */
    private static final int[] NO_BYTES = {};

    /** The word alert, as words are held. */
    private static final long ALERT_KIND = 49735996165586944L;

    /** A bound for loops that end long before it. */
    private static final int ROUNDS = 1000000;

    private static final int INT = 0;
    private static final int TEXT = 1;
    private static final int ADDRESS = 2;

    private static final int BAD = 0;
    private static final int END = 1;
    private static final int NAME = 2;
    private static final int NUMBER_TOKEN = 3;
    private static final int TEXT_TOKEN = 4;
    private static final int ADDRESS_TOKEN = 5;
    private static final int OPEN = 6;
    private static final int CLOSE = 7;
    private static final int COMMA = 8;
    private static final int SEMICOLON = 9;
    private static final int SLASH = 10;
    private static final int EQUAL = 11;
    private static final int UNEQUAL = 12;
    private static final int BELOW = 13;
    private static final int BELOW_OR_EQUAL = 14;
    private static final int ABOVE = 15;
    private static final int ABOVE_OR_EQUAL = 16;

    /** The reserved words, in the order of their token kinds from FIRST_RESERVED on. */
    private static final String RESERVED =
            "rule by within quiet count of distinct sum chain then unless lack or and not kind has alert like in ";
    private static final int RESERVED_WORDS = 20;
    private static final int FIRST_RESERVED = 20;
    private static final int RULE = 20;
    private static final int BY = 21;
    private static final int WITHIN = 22;
    private static final int QUIET = 23;
    private static final int COUNT = 24;
    private static final int OF = 25;
    private static final int DISTINCT = 26;
    private static final int SUM = 27;
    private static final int CHAIN = 28;
    private static final int THEN = 29;
    private static final int UNLESS = 30;
    private static final int LACK = 31;
    private static final int OR = 32;
    private static final int AND = 33;
    private static final int NOT = 34;
    private static final int KIND = 35;
    private static final int HAS = 36;
    private static final int ALERT = 37;
    private static final int LIKE = 38;
    private static final int IN = 39;

    private final int[] tape;
    private int size;
    private int fault;
    private int place;
    private final Scanner scanner;
    private final Records records;
    private Watch watch;

    public WatchHouse() {
        tape = new int[TAPE_MOST];
        place = NONE;
        scanner = new Scanner();
        records = new Records();
        watch = new Watch(new Rule[0], 0);
    }

    public int feed(int a, int b, int c, int d, int e) {
        if (size + 20 > tape.length) {
            return NONE;
        }
        putFour(a);
        putFour(b);
        putFour(c);
        putFour(d);
        putFour(e);
        return size;
    }

    private void putFour(int number) {
        for (int shift = 24; shift >= 0 && size < tape.length; shift -= 8) {
            tape[size] = number >>> shift & 255;
            size++;
        }
    }

    public boolean end(int n) {
        if (n < 0 || n > size) {
            return false;
        }
        size = n;
        return true;
    }

    public int rules() {
        scanner.scan(tape, size);
        size = 0;
        Parser parser = new Parser(scanner);
        for (int round = 0; round <= RULES_MOST && parser.another(); round++) {
            parser.readRule();
        }
        fault = parser.fault;
        place = NONE;
        if (parser.fault != 0) {
            return -1 - parser.place;
        }
        watch = new Watch(parser.ready, parser.readyCount);
        return watch.ruleCount;
    }

    public int fault() {
        return fault;
    }

    public int place() {
        return place;
    }

    public int take() {
        records.open(tape, size);
        size = 0;
        int came = 0;
        for (int round = 0; round < TAPE_MOST && records.more(); round++) {
            Event event = records.readRecord(watch.base, watch.now);
            if (event == null) {
                break;
            }
            watch.advance(event.time);
            if (!watch.arrive(event)) {
                break;
            }
            came++;
        }
        fault = records.fault;
        place = records.place;
        return came;
    }

    public boolean pass(int time) {
        if (time < watch.now || time > TIME_MOST) {
            return false;
        }
        watch.advance(time);
        return true;
    }

    public int count(int what) {
        switch (what) {
            case 0:
                return watch.ruleCount;
            case 1:
                return watch.events;
            case 2:
                return watch.made;
            case 3:
                return watch.alerts;
            case 4:
                return watch.hushed;
            case 5:
                return watch.now;
            case 6:
                return size;
            case 7:
                return records.packedSize;
            default:
                return NONE;
        }
    }

    public int alert(int i, int what) throws NoSuchElementException {
        Alert told = watch.toldAt(i);
        if (told == null) {
            throw new NoSuchElementException("no such alert");
        }
        switch (what) {
            case 0:
                return told.rule;
            case 1:
                return told.time;
            case 2:
                return told.start;
            case 3:
                return told.event;
            case 4:
                return told.hushed;
            default:
                throw new NoSuchElementException("no such answer of an alert");
        }
    }

    public int key(int i, int k, int what) throws NoSuchElementException {
        Alert told = watch.toldAt(i);
        Value value = told == null ? null : told.key.valueAt(k);
        if (value == null) {
            throw new NoSuchElementException("no such value of a key");
        }
        if (what == 0) {
            return value.sort;
        }
        if (what == 1) {
            return value.number;
        }
        int index = what - 2;
        if (what < 2 || index >= value.text.length) {
            throw new NoSuchElementException("no such byte of a key");
        }
        return value.text[index];
    }

    public int rule(int r, int what) throws NoSuchElementException {
        if (r < 0 || r >= watch.ruleCount || what < 0 || what > 1) {
            throw new NoSuchElementException("no such rule or answer of one");
        }
        Rule rule = watch.rules[r];
        return what == 0 ? rule.holdsAt(watch.now) : rule.found;
    }

    public int event(int i, int what) throws NoSuchElementException {
        Event event = watch.latestAt(i);
        if (event == null) {
            throw new NoSuchElementException("no such event");
        }
        switch (what) {
            case 0:
                return event.time;
            case 1:
                return lettersOf(event.kind);
            case 2:
                return event.names.length;
            case 3:
                return event.maker;
            default:
                throw new NoSuchElementException("no such answer of an event");
        }
    }

    public int pack(int i) throws NoSuchElementException {
        Event event = watch.latestAt(i);
        Event ahead = i == 0 ? null : watch.latestAt(i - 1);
        if (event == null || (i != 0 && ahead == null)) {
            throw new NoSuchElementException("no such event to pack");
        }
        records.packEvent(event, ahead == null ? 0 : ahead.time);
        return records.packedSize;
    }

    public int octet(int k) throws NoSuchElementException {
        if (k < 0 || k >= records.packedSize) {
            throw new NoSuchElementException("no such byte packed");
        }
        return records.packed[k];
    }

    // A word is one long, five bits a letter from the left, so that words of any length
    // compare as their bytes do and the shorter of two with one beginning comes first.

    private static long withLetter(long word, int index, int letter) {
        return word | (long) (letter - 'a' + 1) << 5 * (KIND_LETTERS - 1 - index);
    }

    private static int letterAt(long word, int index) {
        return (int) (word >>> 5 * (KIND_LETTERS - 1 - index) & 31) + 'a' - 1;
    }

    private static int lettersOf(long word) {
        int letters = 0;
        while (letters < KIND_LETTERS && letterAt(word, letters) >= 'a') {
            letters++;
        }
        return letters;
    }

    private static boolean isLetter(int octet) {
        return octet >= 'a' && octet <= 'z';
    }

    private static boolean isDigit(int octet) {
        return octet >= '0' && octet <= '9';
    }

    private static boolean isPlain(int octet) {
        return octet >= 32 && octet <= 126;
    }

    /** A value of a field: number is the INT, the ADDRESS, or how many bytes the TEXT has. */
    private static final class Value {
        final int sort;
        final int number;
        final int[] text;
        final int hash;

        Value(int sort, int number, int[] text) {
            this.sort = sort;
            this.number = number;
            this.text = text;
            int mixed = 31 * number + sort;
            for (int octet : text) {
                mixed = 31 * mixed + octet;
            }
            hash = mixed;
        }

        boolean same(Value other) {
            if (sort != other.sort || hash != other.hash || number != other.number) {
                return false;
            }
            for (int k = 0; k < text.length && k < other.text.length; k++) {
                if (text[k] != other.text[k]) {
                    return false;
                }
            }
            return true;
        }

        /** Whether this TEXT is as the pattern tells; a star takes more only when what is behind it fails. */
        boolean like(Value pattern) {
            int at = 0;
            int mark = 0;
            int star = NONE;
            int starAt = 0;
            for (int round = 0; round < ROUNDS && at < text.length; round++) {
                int wanted = mark < pattern.text.length ? pattern.text[mark] : NONE;
                if (wanted == '*') {
                    star = mark;
                    starAt = at;
                    mark++;
                } else if (wanted == '?' || wanted == text[at]) {
                    mark++;
                    at++;
                } else if (star != NONE) {
                    starAt++;
                    at = starAt;
                    mark = star + 1;
                } else {
                    return false;
                }
            }
            while (mark < pattern.text.length && pattern.text[mark] == '*') {
                mark++;
            }
            return mark == pattern.text.length;
        }
    }

    /** An EVENT; maker is the RULE whose ALERT made it, or NONE for a RECORD. */
    private static final class Event {
        final int time;
        final long kind;
        final int maker;
        final long[] names;
        final Value[] values;
        int number;
        Event next;

        Event(int time, long kind, int maker, long[] names, Value[] values) {
            this.time = time;
            this.kind = kind;
            this.maker = maker;
            this.names = names;
            this.values = values;
        }

        Value find(long name) {
            for (int k = 0; k < names.length && k < values.length; k++) {
                if (names[k] == name) {
                    return values[k];
                }
            }
            return null;
        }
    }

    /** What a RULE knows of one KEY; of a distinct also of one KEY with a value of its FIELD. */
    private static final class Key {
        final Value[] values;
        final int hash;
        final Key next;
        int alertTime;
        int hushed;
        Entry oldest;
        Entry newest;
        Entry nth;
        int total;
        long sum;
        int different;
        int inWindow;
        Event[] starts;
        int waiting;
        int answered;

        Key(Value[] values, int hash, Key next) {
            this.values = values;
            this.hash = hash;
            this.next = next;
            alertTime = NONE;
        }

        Value valueAt(int k) {
            return k < 0 || k >= values.length ? null : values[k];
        }

        boolean holdsValues(Value[] wanted, int wantedCount, int wantedHash) {
            if (hash != wantedHash || values.length != wantedCount) {
                return false;
            }
            for (int k = 0; k < wantedCount && k < wanted.length; k++) {
                if (!values[k].same(wanted[k])) {
                    return false;
                }
            }
            return true;
        }
    }

    /** An EVENT that counts in a RULE, or waits there for what may fail to come. */
    private static final class Entry {
        final Event event;
        final Key key;
        final int amount;
        final Key seen;
        Entry nextInRule;
        Entry nextInKey;

        Entry(Event event, Key key, int amount, Key seen) {
            this.event = event;
            this.key = key;
            this.amount = amount;
            this.seen = seen;
        }
    }

    private static final class Alert {
        final int rule;
        final int time;
        final int start;
        final int event;
        final int hushed;
        final Key key;

        Alert(int rule, int time, int start, int event, Key key) {
            this.rule = rule;
            this.time = time;
            this.start = start;
            this.event = event;
            this.key = key;
            hushed = key.hushed;
        }
    }

    /** A node of a COND: its sort is the token kind of OR, AND, NOT or of the test. */
    private static final class Cond {
        /** Thirteen nested signs, each of them two nodes at most, and the outermost three. */
        private static final int DEEPEST = 40;

        final int sort;
        final long word;
        final int number;
        final Value value;
        Cond first;
        Cond last;
        Cond next;

        Cond(int sort, long word, int number, Value value) {
            this.sort = sort;
            this.word = word;
            this.number = number;
            this.value = value;
        }

        void append(Cond part) {
            if (part == null) {
                return;
            }
            if (last == null) {
                first = part;
            } else {
                last.next = part;
            }
            last = part;
        }

        private static boolean holds(Cond cond, Event event, int depth) {
            if (cond == null || depth > DEEPEST) {
                return false;
            }
            if (cond.sort == NOT) {
                return !holds(cond.first, event, depth + 1);
            }
            if (cond.sort != OR && cond.sort != AND) {
                return cond.fits(event);
            }
            boolean decisive = cond.sort == OR;
            for (Cond part = cond.first; part != null; part = part.next) {
                if (holds(part, event, depth + 1) == decisive) {
                    return decisive;
                }
            }
            return !decisive;
        }

        private boolean fits(Event event) {
            if (sort == KIND) {
                return event.kind == word;
            }
            if (sort == ALERT) {
                return event.maker == number;
            }
            Value found = event.find(word);
            if (found == null || sort == HAS) {
                return found != null;
            }
            if (value == null || found.sort != value.sort) {
                return false;
            }
            switch (sort) {
                case LIKE:
                    return found.like(value);
                case IN:
                    return ((found.number ^ value.number) & maskOf(number)) == 0;
                case EQUAL:
                    return found.same(value);
                case UNEQUAL:
                    return !found.same(value);
                case BELOW:
                    return found.number < value.number;
                case BELOW_OR_EQUAL:
                    return found.number <= value.number;
                case ABOVE:
                    return found.number > value.number;
                default:
                    return found.number >= value.number;
            }
        }

        /** Java takes a shift by 32 as one by 0, so no bits at all must be told apart. */
        private static int maskOf(int bits) {
            return bits <= 0 ? 0 : -1 << 32 - bits;
        }
    }

    /** Cuts a TEXT into TOKENS; its rows are made once and used for every TEXT. */
    private static final class Scanner {
        final int[] kinds;
        final int[] places;
        /** A WORD, the value of a NUMBER or an ADDRESS, how many bytes a TEXT has. */
        final long[] amounts;
        private final long[] reserved;
        private int[] bytes;
        private int limit;
        private int tokens;

        Scanner() {
            kinds = new int[TEXT_MOST + 1];
            places = new int[TEXT_MOST + 1];
            amounts = new long[TEXT_MOST + 1];
            reserved = new long[RESERVED_WORDS];
            bytes = NO_BYTES;
            int word = 0;
            int index = 0;
            for (int k = 0; k < RESERVED.length() && word < RESERVED_WORDS; k++) {
                if (RESERVED.charAt(k) == ' ') {
                    word++;
                    index = 0;
                } else {
                    reserved[word] = withLetter(reserved[word], index, RESERVED.charAt(k));
                    index++;
                }
            }
        }

        /** A TOKEN that begins ahead of TEXT_MOST is made of all its bytes, also those behind that place. */
        void scan(int[] tape, int size) {
            bytes = tape;
            limit = Math.min(size, tape.length);
            tokens = 0;
            int at = 0;
            while (at < limit && at < TEXT_MOST) {
                if (bytes[at] == 32 || bytes[at] == 10) {
                    at++;
                    continue;
                }
                int behind = scanToken(at);
                if (behind <= at) {
                    put(BAD, at, 0);
                    return;
                }
                at = behind;
            }
            if (limit > TEXT_MOST) {
                put(BAD, TEXT_MOST, 0);
            } else {
                put(END, limit, 0);
            }
        }

        private void put(int kind, int start, long amount) {
            if (tokens < kinds.length) {
                kinds[tokens] = kind;
                places[tokens] = start;
                amounts[tokens] = amount;
                tokens++;
            }
        }

        private int octetAt(int at) {
            return at >= 0 && at < limit ? bytes[at] : NONE;
        }

        /** Puts the TOKEN that begins at start: the place behind it, or NONE if there is none. */
        private int scanToken(int start) {
            int octet = octetAt(start);
            if (isLetter(octet)) {
                return scanWord(start);
            }
            if (octet == '"') {
                return scanQuoted(start);
            }
            if (octet == '-') {
                return scanNumber(start, start + 1);
            }
            if (isDigit(octet)) {
                int behind = start;
                while (behind < limit && isDigit(bytes[behind])) {
                    behind++;
                }
                return octetAt(behind) == '.' ? scanAddress(start) : scanNumber(start, start);
            }
            return scanSign(start, octet);
        }

        private int scanWord(int start) {
            int at = start;
            long word = 0;
            boolean good = true;
            while (at < limit && (isLetter(bytes[at]) || isDigit(bytes[at]))) {
                if (isLetter(bytes[at]) && at - start < NAME_LETTERS) {
                    word = withLetter(word, at - start, bytes[at]);
                } else {
                    good = false;
                }
                at++;
            }
            if (!good) {
                return NONE;
            }
            int kind = NAME;
            for (int k = 0; k < RESERVED_WORDS; k++) {
                if (reserved[k] == word) {
                    kind = FIRST_RESERVED + k;
                }
            }
            put(kind, start, word);
            return at;
        }

        private int scanNumber(int start, int digits) {
            int at = digits;
            long amount = 0;
            boolean good = true;
            while (at < limit && (isLetter(bytes[at]) || isDigit(bytes[at]))) {
                if (isDigit(bytes[at]) && at - digits < 10) {
                    amount = 10 * amount + bytes[at] - '0';
                } else {
                    good = false;
                }
                at++;
            }
            if (start < digits) {
                amount = -amount;
            }
            if (!good || at == digits || amount != (int) amount) {
                return NONE;
            }
            put(NUMBER_TOKEN, start, amount);
            return at;
        }

        private int scanAddress(int start) {
            int at = start;
            int address = 0;
            int part = 0;
            int digits = 0;
            int dots = 0;
            boolean good = true;
            while (at < limit && (isLetter(bytes[at]) || isDigit(bytes[at]) || bytes[at] == '.')) {
                if (bytes[at] == '.') {
                    good = good && digits > 0;
                    address = address << 8 | part & 255;
                    dots++;
                    part = 0;
                    digits = 0;
                } else {
                    digits++;
                    good = good && isDigit(bytes[at]) && digits <= 3;
                    part = good ? 10 * part + bytes[at] - '0' : 0;
                    good = good && part <= 255;
                }
                at++;
            }
            if (!good || dots != 3 || digits == 0) {
                return NONE;
            }
            put(ADDRESS_TOKEN, start, address << 8 | part & 255);
            return at;
        }

        private int scanQuoted(int start) {
            int at = start + 1;
            while (at < limit && at - start <= BYTES_MOST && isPlain(bytes[at]) && bytes[at] != '"') {
                at++;
            }
            if (octetAt(at) != '"') {
                return NONE;
            }
            put(TEXT_TOKEN, start, at - start - 1);
            return at + 1;
        }

        private int scanSign(int start, int octet) {
            boolean equal = octetAt(start + 1) == '=';
            int kind = BAD;
            int length = 1;
            switch (octet) {
                case '(':
                    kind = OPEN;
                    break;
                case ')':
                    kind = CLOSE;
                    break;
                case ',':
                    kind = COMMA;
                    break;
                case ';':
                    kind = SEMICOLON;
                    break;
                case '/':
                    kind = SLASH;
                    break;
                case '=':
                    kind = EQUAL;
                    break;
                case '!':
                    kind = equal ? UNEQUAL : BAD;
                    length = 2;
                    break;
                case '<':
                    kind = equal ? BELOW_OR_EQUAL : BELOW;
                    length = equal ? 2 : 1;
                    break;
                case '>':
                    kind = equal ? ABOVE_OR_EQUAL : ABOVE;
                    length = equal ? 2 : 1;
                    break;
                default:
                    break;
            }
            if (kind == BAD) {
                return NONE;
            }
            put(kind, start, 0);
            return start + length;
        }
    }

    /** Reads TOKENS to RULES, up to the first FAULT; behind it no token fits any more. */
    private static final class Parser {
        final Rule[] ready;
        int readyCount;
        int fault;
        int place;
        private final Scanner scanner;
        private int at;
        private int kind;

        Parser(Scanner scanner) {
            this.scanner = scanner;
            ready = new Rule[RULES_MOST];
            kind = scanner.kinds[0];
        }

        boolean another() {
            return fault == 0 && kind != END;
        }

        private void step() {
            if (fault == 0 && kind != END && kind != BAD && at + 1 < scanner.kinds.length) {
                at++;
                kind = scanner.kinds[at];
            }
        }

        /** What is no TOKEN can't come for that reason first, whatever else is wrong of it. */
        private void fail(int sort) {
            if (fault == 0) {
                fault = kind == BAD ? 1 : sort;
                place = scanner.places[at];
                kind = BAD;
            }
        }

        private void skip(int wanted) {
            if (kind == wanted) {
                step();
            } else {
                fail(2);
            }
        }

        void readRule() {
            if (kind != RULE) {
                fail(2);
                return;
            }
            if (readyCount >= ready.length) {
                fail(4);
                return;
            }
            step();
            Rule rule = new Rule(readyCount);
            rule.name = readNewName();
            readWhat(rule);
            if (kind == BY) {
                readBy(rule);
            }
            skip(WITHIN);
            rule.within = readNumber(1, SECONDS_MOST);
            if (kind == QUIET) {
                step();
                rule.quiet = readNumber(0, SECONDS_MOST);
            }
            skip(SEMICOLON);
            if (fault == 0) {
                rule.makeBuckets();
                ready[readyCount] = rule;
                readyCount++;
            }
        }

        private long readNewName() {
            if (kind == NAME && ruleNamed(scanner.amounts[at]) != NONE) {
                fail(5);
                return 0;
            }
            return readName();
        }

        private int ruleNamed(long name) {
            for (int r = 0; r < readyCount && r < ready.length; r++) {
                if (ready[r].name == name) {
                    return r;
                }
            }
            return NONE;
        }

        private long readName() {
            if (kind != NAME) {
                fail(2);
                return 0;
            }
            long name = scanner.amounts[at];
            step();
            return name;
        }

        private int readNumber(int least, int most) {
            if (kind != NUMBER_TOKEN) {
                fail(2);
                return 0;
            }
            int number = (int) scanner.amounts[at];
            if (number < least || number > most) {
                fail(3);
                return 0;
            }
            step();
            return number;
        }

        private void readBy(Rule rule) {
            boolean more = true;
            for (int k = 0; more && k <= BY_MOST; k++) {
                step();
                if (kind == NAME && rule.byCount >= BY_MOST) {
                    fail(4);
                } else if (kind == NAME && rule.keyedBy(scanner.amounts[at])) {
                    fail(5);
                }
                rule.addBy(readName());
                more = kind == COMMA;
            }
        }

        private void readWhat(Rule rule) {
            rule.what = kind;
            switch (kind) {
                case COUNT:
                case DISTINCT:
                case SUM:
                    step();
                    rule.number = readNumber(1, rule.what == SUM ? SUM_MOST : COUNT_MOST);
                    if (rule.what != COUNT) {
                        rule.field = readName();
                    }
                    skip(OF);
                    rule.addCond(readCond(0));
                    break;
                case CHAIN:
                    step();
                    rule.addCond(readCond(0));
                    for (int k = 1; kind == THEN && k < CONDS_MOST; k++) {
                        step();
                        rule.addCond(readCond(0));
                    }
                    if (kind == THEN) {
                        fail(4);
                    }
                    if (kind == UNLESS) {
                        step();
                        rule.unless = readCond(0);
                    }
                    break;
                case LACK:
                    step();
                    rule.addCond(readCond(0));
                    skip(THEN);
                    rule.addCond(readCond(0));
                    break;
                default:
                    fail(2);
                    break;
            }
        }

        private Cond readCond(int depth) {
            Cond either = new Cond(OR, 0, 0, null);
            Cond both = new Cond(AND, 0, 0, null);
            either.append(both);
            both.append(readOne(depth));
            for (int round = 0; round < TEXT_MOST && (kind == OR || kind == AND); round++) {
                if (kind == OR) {
                    both = new Cond(AND, 0, 0, null);
                    either.append(both);
                }
                step();
                both.append(readOne(depth));
            }
            return either;
        }

        private Cond readOne(int depth) {
            switch (kind) {
                case OPEN:
                case NOT:
                    if (depth > NESTED_MOST) {
                        fail(4);
                        return null;
                    }
                    if (kind == NOT) {
                        step();
                        Cond not = new Cond(NOT, 0, 0, null);
                        not.append(readOne(depth + 1));
                        return not;
                    }
                    step();
                    Cond inner = readCond(depth + 1);
                    skip(CLOSE);
                    return inner;
                case KIND:
                case HAS:
                case ALERT:
                    return readWordTest();
                case NAME:
                    return readFieldTest();
                default:
                    fail(2);
                    return null;
            }
        }

        private Cond readWordTest() {
            int sort = kind;
            step();
            if (sort == KIND) {
                skip(EQUAL);
            }
            long word = scanner.amounts[at];
            int above = NONE;
            if (sort == KIND && kind >= FIRST_RESERVED) {
                step();
                return new Cond(sort, word, above, null);
            }
            if (sort == ALERT && kind == NAME) {
                above = ruleNamed(word);
                if (above == NONE) {
                    fail(5);
                }
            }
            readName();
            return new Cond(sort, word, above, null);
        }

        private Cond readFieldTest() {
            long name = readName();
            int sort = kind;
            int bits = 0;
            Value value = null;
            switch (sort) {
                case LIKE:
                    step();
                    value = readValue(TEXT_TOKEN);
                    break;
                case IN:
                    step();
                    value = readValue(ADDRESS_TOKEN);
                    skip(SLASH);
                    bits = readNumber(0, BITS_MOST);
                    break;
                case EQUAL:
                case UNEQUAL:
                    step();
                    value = readValue(kind);
                    break;
                case BELOW:
                case BELOW_OR_EQUAL:
                case ABOVE:
                case ABOVE_OR_EQUAL:
                    step();
                    value = readValue(NUMBER_TOKEN);
                    break;
                default:
                    fail(2);
                    break;
            }
            return new Cond(sort, name, bits, value);
        }

        private Value readValue(int wanted) {
            boolean isValue = kind == NUMBER_TOKEN || kind == TEXT_TOKEN || kind == ADDRESS_TOKEN;
            if (kind != wanted || !isValue) {
                fail(2);
                return null;
            }
            int amount = (int) scanner.amounts[at];
            int first = scanner.places[at] + 1;
            int length = kind == TEXT_TOKEN ? Math.max(amount, 0) : 0;
            int[] text = length == 0 ? NO_BYTES : new int[length];
            for (int k = 0; k < length && first + k < scanner.bytes.length; k++) {
                text[k] = scanner.bytes[first + k];
            }
            int sort = kind == TEXT_TOKEN ? TEXT : kind == NUMBER_TOKEN ? INT : ADDRESS;
            step();
            return new Value(sort, amount, text);
        }
    }

    /** A RULE and what it still knows of the EVENTS that it has looked at. */
    private static final class Rule {
        private static final int BUCKETS = 128;

        final int index;
        long name;
        int what;
        int number;
        long field;
        final Cond[] conds;
        int condCount;
        Cond unless;
        final long[] by;
        int byCount;
        int within;
        int quiet;
        int found;
        /** How many entries are in the window, of a lack: still wait. */
        private int held;
        private Entry oldest;
        private Entry newest;
        private Key[] buckets;
        /** The values of the KEY looked for, and behind them that of a distinct's FIELD. */
        private final Value[] wanted;

        Rule(int index) {
            this.index = index;
            conds = new Cond[CONDS_MOST];
            by = new long[BY_MOST];
            wanted = new Value[BY_MOST + 1];
            buckets = new Key[0];
        }

        boolean keyedBy(long fieldName) {
            for (int k = 0; k < byCount && k < by.length; k++) {
                if (by[k] == fieldName) {
                    return true;
                }
            }
            return false;
        }

        void addBy(long fieldName) {
            if (byCount < by.length) {
                by[byCount] = fieldName;
                byCount++;
            }
        }

        void addCond(Cond cond) {
            if (condCount < conds.length) {
                conds[condCount] = cond;
                condCount++;
            }
        }

        /** A RULE without values to tell KEYS apart needs one bucket alone. */
        void makeBuckets() {
            buckets = new Key[byCount == 0 && what != DISTINCT ? 1 : BUCKETS];
        }

        /** The KEY of an EVENT; null if the EVENT lacks a FIELD of it. */
        Key keyOf(Event event) {
            for (int k = 0; k < byCount && k < by.length; k++) {
                wanted[k] = event.find(by[k]);
                if (wanted[k] == null) {
                    return null;
                }
            }
            return keyOfWanted(byCount);
        }

        private Key keyOfWanted(int values) {
            int hash = values;
            for (int k = 0; k < values && k < wanted.length; k++) {
                hash = 31 * hash + wanted[k].hash;
            }
            hash ^= hash >>> 15 ^ hash >>> 7;
            int bucket = buckets.length == 0 ? NONE : Math.floorMod(hash, buckets.length);
            for (Key key = bucket < 0 ? null : buckets[bucket]; key != null; key = key.next) {
                if (key.holdsValues(wanted, values, hash)) {
                    return key;
                }
            }
            Value[] own = new Value[values];
            for (int k = 0; k < values && k < wanted.length; k++) {
                own[k] = wanted[k];
            }
            Key made = new Key(own, hash, bucket < 0 ? null : buckets[bucket]);
            if (bucket >= 0) {
                buckets[bucket] = made;
            }
            return made;
        }

        /** Looks at an EVENT of a KEY: the number of START of what is FOUND there, or NONE. */
        int look(Key key, Event event) {
            int holding = 0;
            for (int k = 0; k < condCount && k < conds.length; k++) {
                if (Cond.holds(conds[k], event, 0)) {
                    holding |= 1 << k;
                }
            }
            if (what == CHAIN) {
                boolean broken = Cond.holds(unless, event, 0);
                return findChain(key, event, holding, broken);
            }
            if (what == LACK) {
                waitForSecond(key, event, holding);
                return NONE;
            }
            if (holding == 0) {
                return NONE;
            }
            forget(event.time);
            if (what == COUNT) {
                return findCount(key, event);
            }
            Value value = event.find(field);
            if (value == null) {
                return NONE;
            }
            if (what == SUM) {
                return findSum(key, event, value);
            }
            wanted[Math.min(byCount, BY_MOST)] = value;
            return findDistinct(key, event, keyOfWanted(byCount + 1));
        }

        private int findCount(Key key, Event event) {
            keep(new Entry(event, key, 0, null));
            key.total++;
            if (key.total == 1) {
                key.nth = key.newest;
            } else if (key.total > number && key.nth != null) {
                key.nth = key.nth.nextInKey;
            }
            boolean enough = key.total >= number && key.nth != null
                    && key.nth.event.time > event.time - within;
            return enough ? key.nth.event.number : NONE;
        }

        private int findSum(Key key, Event event, Value value) {
            if (value.sort != INT) {
                return NONE;
            }
            keep(new Entry(event, key, value.number, null));
            key.sum += value.number;
            return key.sum >= number && key.oldest != null ? key.oldest.event.number : NONE;
        }

        private int findDistinct(Key key, Event event, Key seen) {
            keep(new Entry(event, key, 0, seen));
            seen.inWindow++;
            if (seen.inWindow == 1) {
                key.different++;
            }
            return key.different >= number && key.oldest != null ? key.oldest.event.number : NONE;
        }

        private void keep(Entry entry) {
            Key key = entry.key;
            if (key.oldest == null) {
                key.oldest = entry;
            }
            if (key.newest != null) {
                key.newest.nextInKey = entry;
            }
            key.newest = entry;
            append(entry);
            held++;
        }

        private void append(Entry entry) {
            if (newest == null || oldest == null) {
                oldest = entry;
            } else {
                newest.nextInRule = entry;
            }
            newest = entry;
        }

        /** Takes what has left the window out of all that is told of the window. */
        private void forget(int now) {
            while (oldest != null && oldest.event.time <= now - within) {
                Entry gone = oldest;
                oldest = gone.nextInRule;
                held--;
                gone.key.oldest = gone.nextInKey;
                gone.key.sum -= gone.amount;
                if (gone.seen != null) {
                    gone.seen.inWindow--;
                    if (gone.seen.inWindow == 0) {
                        gone.key.different--;
                    }
                }
            }
        }

        /**
         * Keeps for each number of CONDs met the greatest e1 alone: whatever an older one could
         * still find, the greatest one finds too, and it stays longest in the window.
         */
        private int findChain(Key key, Event event, int holding, boolean broken) {
            int last = condCount - 1;
            if (last < 0) {
                return NONE;
            }
            if (key.starts == null) {
                key.starts = new Event[condCount];
            }
            Event[] starts = key.starts;
            for (int k = Math.min(last, starts.length - 1); k > 0; k--) {
                if ((holding >> k & 1) == 1) {
                    starts[k] = starts[k - 1];
                }
            }
            boolean first = (holding & 1) == 1;
            Event start = last == 0 ? event : starts[last];
            boolean finds = (holding >> last & 1) == 1 && start != null && start.time > event.time - within;
            if (broken) {
                for (int k = 0; k < starts.length; k++) {
                    starts[k] = null;
                }
            }
            if (first) {
                starts[0] = event;
            }
            return finds ? start.number : NONE;
        }

        /** An EVENT answers all that wait ahead of it, and may then wait itself. */
        private void waitForSecond(Key key, Event event, int holding) {
            if ((holding & 2) != 0) {
                key.answered = event.number;
                held -= key.waiting;
                key.waiting = 0;
            }
            if ((holding & 1) != 0) {
                append(new Entry(event, key, 0, null));
                key.waiting++;
                held++;
            }
        }

        /** The TIME at which the next lack would be FOUND, or NONE if none waits. */
        int nextDue() {
            if (what != LACK) {
                return NONE;
            }
            while (oldest != null && oldest.event.number < oldest.key.answered) {
                oldest = oldest.nextInRule;
            }
            return oldest == null ? NONE : oldest.event.time + within;
        }

        /** The next that waits until that TIME and no longer, taken out; null without one. */
        Entry takeDue(int due) {
            if (nextDue() != due || oldest == null) {
                return null;
            }
            Entry taken = oldest;
            oldest = taken.nextInRule;
            taken.key.waiting--;
            held--;
            return taken;
        }

        int holdsAt(int now) {
            if (what == CHAIN) {
                return startsSince(now - within);
            }
            if (what != LACK) {
                forget(now);
            }
            return held;
        }

        private int startsSince(int time) {
            int pairs = 0;
            for (int b = 0; b < buckets.length; b++) {
                for (Key key = buckets[b]; key != null; key = key.next) {
                    Event[] starts = key.starts;
                    for (int k = 0; starts != null && k < starts.length && k < condCount - 1; k++) {
                        if (starts[k] != null && starts[k].time > time) {
                            pairs++;
                        }
                    }
                }
            }
            return pairs;
        }
    }

    /** The RULES at work, the EVENTS that came since they were told, and NOW. */
    private static final class Watch {
        final Rule[] rules;
        final int ruleCount;
        final Event[] latest;
        final ArrayList<Alert> told;
        int events;
        int made;
        int alerts;
        int hushed;
        int now;
        /** The TIME of the latest RECORD that came. */
        int base;
        /** EVENTS that ALERTS have made and that have not come yet. */
        private Event firstWaiting;
        private Event lastWaiting;

        Watch(Rule[] rules, int ruleCount) {
            this.rules = rules;
            this.ruleCount = Math.min(ruleCount, rules.length);
            latest = new Event[LATEST];
            told = new ArrayList<Alert>();
        }

        Alert toldAt(int i) {
            return i < 0 || i >= told.size() ? null : told.get(i);
        }

        Event latestAt(int i) {
            return i < 0 || i >= events || i < events - LATEST ? null : latest[i % LATEST];
        }

        /** NOW becomes a TIME, once the lacks that are FOUND ahead of it are told. */
        void advance(int time) {
            for (int round = 0; round < ROUNDS; round++) {
                int due = leastDue(time);
                if (due == NONE) {
                    break;
                }
                now = due;
                for (int r = 0; r < ruleCount; r++) {
                    tellLacks(rules[r], due);
                }
                comeWaiting();
            }
            now = time;
        }

        private int leastDue(int time) {
            int least = NONE;
            for (int r = 0; r < ruleCount; r++) {
                int due = rules[r].nextDue();
                if (due != NONE && due < time && (least == NONE || due < least)) {
                    least = due;
                }
            }
            return least;
        }

        private void tellLacks(Rule rule, int due) {
            Entry taken = rule.takeDue(due);
            for (int k = 0; k < EVENTS_MOST && taken != null; k++) {
                tell(rule, taken.key, due, taken.event, taken.event.number);
                taken = rule.takeDue(due);
            }
        }

        /** A RECORD comes, at its TIME; false if it is one too many. */
        boolean arrive(Event event) {
            if (events >= EVENTS_MOST) {
                return false;
            }
            base = event.time;
            come(event);
            comeWaiting();
            return true;
        }

        private void come(Event event) {
            event.number = events;
            latest[events % LATEST] = event;
            events++;
            for (int r = event.maker + 1; r < ruleCount; r++) {
                Rule rule = rules[r];
                Key key = rule.keyOf(event);
                int start = key == null ? NONE : rule.look(key, event);
                if (start != NONE) {
                    tell(rule, key, event.time, event, start);
                }
            }
        }

        private void comeWaiting() {
            for (int k = 0; k < ROUNDS && firstWaiting != null; k++) {
                Event event = firstWaiting;
                firstWaiting = event.next;
                event.next = null;
                if (events < EVENTS_MOST) {
                    made++;
                    come(event);
                }
            }
            lastWaiting = null;
        }

        private void tell(Rule rule, Key key, int time, Event event, int start) {
            rule.found++;
            if (key.alertTime != NONE && key.alertTime > time - rule.quiet) {
                key.hushed++;
                hushed++;
                return;
            }
            if (told.size() < TOLD_MOST) {
                told.add(new Alert(rule.index, time, start, event.number, key));
            }
            alerts++;
            key.hushed = 0;
            key.alertTime = time;
            if (event.maker == NONE) {
                makeEvent(rule, key, time);
            }
        }

        /** The FIELDS of an EVENT are in the order of their NAMES, not in that behind by. */
        private void makeEvent(Rule rule, Key key, int time) {
            int fields = Math.min(rule.byCount, key.values.length);
            long[] names = new long[fields];
            Value[] values = new Value[fields];
            for (int k = 0; k < fields; k++) {
                int at = k;
                while (at > 0 && names[at - 1] > rule.by[k]) {
                    names[at] = names[at - 1];
                    values[at] = values[at - 1];
                    at--;
                }
                names[at] = rule.by[k];
                values[at] = key.values[k];
            }
            Event event = new Event(time, ALERT_KIND, rule.index, names, values);
            if (firstWaiting == null || lastWaiting == null) {
                firstWaiting = event;
            } else {
                lastWaiting.next = event;
            }
            lastWaiting = event;
        }
    }

    /** Reads RECORDS, and packs an EVENT to one. */
    private static final class Records {
        private static final int PACKED_MOST = 301;

        int fault;
        int place;
        final int[] packed;
        int packedSize;
        private int[] bytes;
        private int limit;
        private int at;

        Records() {
            packed = new int[PACKED_MOST];
            bytes = NO_BYTES;
            place = NONE;
        }

        void open(int[] tape, int size) {
            bytes = tape;
            limit = Math.min(size, tape.length);
            at = 0;
            fault = 0;
            place = NONE;
        }

        boolean more() {
            return fault == 0 && at < limit;
        }

        private void fail(int sort, int where) {
            if (fault == 0) {
                fault = sort;
                place = where;
            }
        }

        /** The next byte, if it is one of these; behind a FAULT the least one, to be read for nothing. */
        private int nextByte(int least, int most) {
            if (fault == 0 && at >= limit) {
                fail(1, limit);
            }
            if (fault != 0 || at < 0 || at >= bytes.length) {
                return least;
            }
            int octet = bytes[at];
            if (octet < least || octet > most) {
                fail(2, at);
                return least;
            }
            at++;
            return octet;
        }

        /** The RECORD that begins here as an EVENT; null, and a FAULT, if it is none. */
        Event readRecord(int base, int now) {
            int start = at;
            nextByte(229, 229);
            int timeAt = at;
            long time = base + readUnsigned();
            if (time > TIME_MOST || time < now) {
                fail(3, timeAt);
            }
            long kind = readWord(KIND_LETTERS);
            int fields = nextByte(0, FIELDS_MOST);
            long[] names = new long[fields];
            Value[] values = new Value[fields];
            long ahead = 0;
            for (int k = 0; k < fields && fault == 0; k++) {
                int nameAt = at;
                names[k] = readWord(NAME_LETTERS);
                if (names[k] <= ahead) {
                    fail(2, nameAt);
                }
                ahead = names[k];
                values[k] = readValue(nextByte(INT, ADDRESS));
            }
            int check = checkOf(bytes, start, at);
            int checkAt = at;
            if (nextByte(0, 255) != check) {
                fail(4, checkAt);
            }
            return fault == 0 ? new Event((int) time, kind, NONE, names, values) : null;
        }

        private long readWord(int most) {
            int letters = nextByte(1, most);
            long word = 0;
            for (int k = 0; k < letters; k++) {
                word = withLetter(word, k, nextByte('a', 'z'));
            }
            return word;
        }

        private Value readValue(int sort) {
            if (sort == INT) {
                long folded = readUnsigned();
                long number = (folded & 1) == 0 ? folded >> 1 : -(folded >> 1) - 1;
                return new Value(INT, (int) number, NO_BYTES);
            }
            if (sort == ADDRESS) {
                int address = 0;
                for (int k = 0; k < 4; k++) {
                    address = address << 8 | nextByte(0, 255);
                }
                return new Value(ADDRESS, address, NO_BYTES);
            }
            int length = nextByte(0, BYTES_MOST);
            int[] text = length == 0 ? NO_BYTES : new int[length];
            for (int k = 0; k < length; k++) {
                text[k] = nextByte(32, 126);
            }
            return new Value(TEXT, length, text);
        }

        private long readUnsigned() {
            int start = at;
            long amount = 0;
            for (int k = 0; k < 5; k++) {
                int octet = nextByte(0, 255);
                amount |= (long) (octet & 127) << 7 * k;
                if ((k == 4 && octet > 15) || (k > 0 && octet == 0)) {
                    fail(3, start);
                }
                if (octet < 128) {
                    break;
                }
            }
            return amount;
        }

        private static int checkOf(int[] row, int from, int behind) {
            int check = 0;
            for (int k = Math.max(from, 0); k < behind && k < row.length; k++) {
                check ^= row[k];
                for (int bit = 0; bit < 8; bit++) {
                    check *= 2;
                    if (check > 255) {
                        check ^= 263;
                    }
                }
            }
            return check;
        }

        void packEvent(Event event, int ahead) {
            packedSize = 0;
            put(229);
            putUnsigned(event.time - ahead);
            putWord(event.kind);
            put(event.names.length);
            for (int k = 0; k < event.names.length && k < event.values.length; k++) {
                putWord(event.names[k]);
                putValue(event.values[k]);
            }
            put(checkOf(packed, 0, packedSize));
        }

        private void put(int octet) {
            if (packedSize < packed.length) {
                packed[packedSize] = octet;
                packedSize++;
            }
        }

        private void putUnsigned(long amount) {
            long rest = amount;
            for (int k = 0; k < 5 && rest > 127; k++) {
                put((int) (rest & 127) + 128);
                rest >>= 7;
            }
            put((int) rest);
        }

        private void putWord(long word) {
            int letters = lettersOf(word);
            put(letters);
            for (int k = 0; k < letters; k++) {
                put(letterAt(word, k));
            }
        }

        private void putValue(Value value) {
            put(value.sort);
            if (value.sort == INT) {
                long number = value.number;
                putUnsigned(number >= 0 ? 2 * number : -2 * number - 1);
            } else if (value.sort == ADDRESS) {
                for (int shift = 24; shift >= 0; shift -= 8) {
                    put(value.number >>> shift & 255);
                }
            } else {
                put(value.text.length);
                for (int octet : value.text) {
                    put(octet);
                }
            }
        }
    }
}
