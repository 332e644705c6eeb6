import java.util.ArrayList;
import java.util.List;
import java.util.Random;
import java.util.regex.Pattern;

/**
 * Promises 4, 7 to 14: random rules and records, answered as a model answers that keeps all. It asks
 * more often than 512 times: what the class answers does not hang on how often it was asked.
 */
public final class ModelTest {
    private static final String[] NAMES = {"a", "ab", "b", "user"};
    private static final String[] KINDS = {"x", "y", "z", "alert", "rule"};
    private static final String[] TEXTS = {"", "a", "ab", "aab", "b*", "a?b", "ba"};
    private static final int TIME_MOST = 2000000000;
    private static final int WIDE = 33333;
    private static final String[] PATTERNS = {"*", "a*", "?", "*b", "a?b", "", "*a*", "a*b*", "**", "b?"};

    private final Random random;
    private final WatchHouse house = new WatchHouse();
    private final List<Model.Rule> rules = new ArrayList<>();
    private final StringBuilder text = new StringBuilder();
    private Model model;
    private final int seed;
    /** How many seconds a small step of time has: with many, windows are as wide as they may be. */
    private final int scale;

    private ModelTest(int seed, Random random) {
        this.seed = seed;
        this.random = random;
        scale = seed % 7 == 3 ? WIDE : 1;
    }

    /** A text of some rules. */
    static String randomText(Random random) {
        ModelTest test = new ModelTest(0, random);
        test.makeRules(1 + random.nextInt(random.nextInt(4) == 0 ? 12 : 3));
        return test.text.toString();
    }

    public static void main(String[] args) {
        int runs = args.length > 0 ? Integer.parseInt(args[0]) : 1500;
        for (int seed = 0; seed < runs && Kit.wrong == 0; seed++) {
            new ModelTest(seed, new Random(seed)).run();
        }
        Kit.finish("ModelTest");
    }

    private void due(String call, long got, long want) {
        if (got != want) {
            System.out.println("seed " + seed + " rules " + text);
        }
        Kit.due("seed " + seed + ": " + call, got, want);
    }

    private void makeRules(int count) {
        for (int r = 0; r < count; r++) {
            Model.Rule rule = randomRule(r);
            String told = textOf(rule);
            if (text.length() + told.length() > 2000) {
                break;
            }
            text.append(told);
            rules.add(rule);
        }
    }

    private void run() {
        makeRules(1 + random.nextInt(seed % 10 == 0 ? 12 : 4));
        due("rules()", Kit.rules(house, text.toString()), rules.size());
        model = new Model(rules);
        if (seed % 6 == 5) {
            passTo(TIME_MOST - random.nextInt(100) * scale);
        }
        int steps = 5 + random.nextInt(40);
        for (int k = 0; k < steps && Kit.wrong == 0; k++) {
            if (random.nextInt(6) == 0) {
                passTime();
            } else {
                takeSome();
            }
            compare();
        }
        packAll();
    }

    private int smallTime() {
        int steps = random.nextInt(3) == 0 ? random.nextInt(12) : random.nextInt(3);
        return steps * scale + (scale > 1 ? random.nextInt(2) : 0);
    }

    private void passTime() {
        passTo(model.now + smallTime() - (random.nextInt(8) == 0 ? 3 : 0));
    }

    private void passTo(int time) {
        boolean good = time >= model.now && time <= TIME_MOST;
        due("pass(" + time + ")", house.pass(time) ? 1 : 0, good ? 1 : 0);
        if (good) {
            model.advance(time);
        }
    }

    private void takeSome() {
        List<byte[]> parts = new ArrayList<>();
        int count = 1 + random.nextInt(4);
        int due = 0;
        int fault = 0;
        int place = -1;
        int size = 0;
        for (int k = 0; k < count; k++) {
            int after = smallTime();
            if (model.base + after < model.now && random.nextInt(10) != 0) {
                after = model.now - model.base + smallTime();
            }
            Model.Ev e = new Model.Ev();
            e.time = model.base + after;
            e.kind = KINDS[random.nextInt(KINDS.length)];
            for (String name : NAMES) {
                if (random.nextInt(3) != 0) {
                    e.fields.put(name, randomValue());
                }
            }
            byte[] record = Kit.recordOf(after, e.kind, e.fields);
            parts.add(record);
            if (fault == 0 && (e.time < model.now || e.time > TIME_MOST)) {
                fault = 3;
                place = size + 1;
            } else if (fault == 0) {
                model.arrive(e);
                due++;
            }
            size += record.length;
        }
        due("take()", Kit.take(house, parts.toArray(new byte[0][])), due);
        due("fault()", house.fault(), fault);
        due("place()", house.place(), place);
    }

    private void compare() {
        due("count(0)", house.count(0), rules.size());
        due("count(1)", house.count(1), model.log.size());
        due("count(2)", house.count(2), model.made);
        due("count(3)", house.count(3), model.told.size());
        due("count(4)", house.count(4), model.hushed);
        due("count(5)", house.count(5), model.now);
        for (int r = 0; r < rules.size(); r++) {
            due("rule(" + r + ", 0)", house.rule(r, 0), model.holds(rules.get(r)));
            due("rule(" + r + ", 1)", house.rule(r, 1), rules.get(r).found);
        }
        for (int i = Math.max(0, model.told.size() - 30); i < Math.min(500, model.told.size()); i++) {
            compareAlert(i, model.told.get(i));
        }
        for (int i = Math.max(0, model.log.size() - 64); i < model.log.size(); i++) {
            Model.Ev e = model.log.get(i);
            due("event(" + i + ", 0)", house.event(i, 0), e.time);
            due("event(" + i + ", 1)", house.event(i, 1), e.kind.length());
            due("event(" + i + ", 2)", house.event(i, 2), e.fields.size());
            due("event(" + i + ", 3)", house.event(i, 3), e.maker);
        }
    }

    private void compareAlert(int i, Model.Told told) {
        due("alert(" + i + ", 0)", house.alert(i, 0), told.rule);
        due("alert(" + i + ", 1)", house.alert(i, 1), told.time);
        due("alert(" + i + ", 2)", house.alert(i, 2), told.start);
        due("alert(" + i + ", 3)", house.alert(i, 3), told.event);
        due("alert(" + i + ", 4)", house.alert(i, 4), told.hushed);
        for (int k = 0; k < told.key.size(); k++) {
            compareValue("key(" + i + ", " + k + ", ", i, k, told.key.get(k));
        }
        Kit.none("key(" + i + ", behind)", () -> house.key(i, told.key.size(), 0));
    }

    private void compareValue(String call, int i, int k, Object value) {
        if (value instanceof Integer) {
            due(call + "0)", house.key(i, k, 0), 0);
            due(call + "1)", house.key(i, k, 1), (Integer) value);
            Kit.none(call + "2)", () -> house.key(i, k, 2));
        } else if (value instanceof String) {
            String string = (String) value;
            due(call + "0)", house.key(i, k, 0), 1);
            due(call + "1)", house.key(i, k, 1), string.length());
            for (int b = 0; b < string.length(); b++) {
                due(call + (2 + b) + ")", house.key(i, k, 2 + b), string.charAt(b));
            }
            Kit.none(call + "behind)", () -> house.key(i, k, 2 + string.length()));
        } else {
            int address = 0;
            for (Object octet : (List<?>) value) {
                address = 256 * address + (Integer) octet;
            }
            due(call + "0)", house.key(i, k, 0), 2);
            due(call + "1)", house.key(i, k, 1), address);
            Kit.none(call + "2)", () -> house.key(i, k, 2));
        }
    }

    private void packAll() {
        for (int i = Math.max(0, model.log.size() - 63); i < model.log.size(); i++) {
            Model.Ev e = model.log.get(i);
            int ahead = i == 0 ? 0 : model.log.get(i - 1).time;
            byte[] want = Kit.recordOf(e.time - ahead, e.kind, e.fields);
            due("pack(" + i + ")", house.pack(i), want.length);
            due("count(7)", house.count(7), want.length);
            for (int k = 0; k < want.length; k++) {
                due("octet(" + k + ")", house.octet(k), want[k] & 255);
            }
            Kit.none("octet behind", () -> house.octet(want.length));
        }
    }

    private Object randomValue() {
        switch (random.nextInt(4)) {
            case 0:
            case 1:
                return random.nextInt(20) == 0 ? random.nextInt() : random.nextInt(7) - 3;
            case 2:
                return TEXTS[random.nextInt(TEXTS.length)];
            default:
                return Kit.address(random.nextBoolean() ? 10 : 200, 0, random.nextInt(2), random.nextInt(3));
        }
    }

    private Model.Rule randomRule(int index) {
        Model.Rule rule = new Model.Rule();
        rule.index = index;
        rule.name = "r" + (char) ('a' + index);
        rule.what = new String[] {"count", "distinct", "sum", "chain", "lack"}[random.nextInt(5)];
        rule.n = rule.what.equals("sum") ? 1 + random.nextInt(8) : 1 + random.nextInt(4);
        rule.field = NAMES[random.nextInt(NAMES.length)];
        int conds = rule.what.equals("lack") ? 2 : rule.what.equals("chain") ? 1 + random.nextInt(5) : 1;
        for (int k = 0; k < conds; k++) {
            rule.conds.add(randomCond(index, random.nextInt(3)));
        }
        if (rule.what.equals("chain") && random.nextBoolean()) {
            rule.unless = randomCond(index, random.nextInt(2));
        }
        List<String> names = new ArrayList<>(List.of(NAMES));
        int by = random.nextInt(4);
        for (int k = 0; k < by && random.nextInt(4) != 0; k++) {
            rule.by.add(names.remove(random.nextInt(names.size())));
        }
        rule.within = (1 + random.nextInt(random.nextBoolean() ? 6 : 30)) * scale;
        rule.quiet = random.nextBoolean() ? 0 : random.nextInt(15) * scale;
        return rule;
    }

    private String textOf(Model.Rule rule) {
        StringBuilder out = new StringBuilder("rule " + rule.name + " " + rule.what + " ");
        if (rule.what.equals("chain") || rule.what.equals("lack")) {
            for (int k = 0; k < rule.conds.size(); k++) {
                out.append(k == 0 ? "" : " then ").append(rule.conds.get(k).text);
            }
            out.append(rule.unless == null ? "" : " unless " + rule.unless.text);
        } else {
            out.append(rule.n).append(rule.what.equals("count") ? "" : " " + rule.field);
            out.append(" of ").append(rule.conds.get(0).text);
        }
        for (int k = 0; k < rule.by.size(); k++) {
            out.append(k == 0 ? " by " : ", ").append(rule.by.get(k));
        }
        out.append(" within ").append(rule.within);
        if (rule.quiet > 0 || random.nextBoolean()) {
            out.append(" quiet ").append(rule.quiet);
        }
        return out.append(random.nextBoolean() ? ";\n" : " ; ").toString();
    }

    /** A COND of several BOTHs, each of several ONEs, as deep as told. */
    private Model.Cond randomCond(int above, int depth) {
        Model.Cond all = randomBoth(above, depth);
        for (int k = random.nextInt(4); k > 2; k--) {
            Model.Cond left = all;
            Model.Cond right = randomBoth(above, depth);
            all = new Model.Cond(left.text + " or " + right.text, e -> left.holds.test(e) || right.holds.test(e));
        }
        return all;
    }

    private Model.Cond randomBoth(int above, int depth) {
        Model.Cond all = randomOne(above, depth);
        for (int k = random.nextInt(4); k > 2; k--) {
            Model.Cond left = all;
            Model.Cond right = randomOne(above, depth);
            all = new Model.Cond(left.text + " and " + right.text, e -> left.holds.test(e) && right.holds.test(e));
        }
        return all;
    }

    private Model.Cond randomOne(int above, int depth) {
        if (depth > 0 && random.nextInt(3) == 0) {
            Model.Cond inner = randomCond(above, depth - 1);
            return new Model.Cond("(" + inner.text + ")", inner.holds);
        }
        if (depth > 0 && random.nextInt(3) == 0) {
            Model.Cond inner = randomOne(above, depth - 1);
            return new Model.Cond("not " + inner.text, inner.holds.negate());
        }
        String name = NAMES[random.nextInt(NAMES.length)];
        switch (random.nextInt(8)) {
            case 0:
            case 1:
            case 2:
                String kind = KINDS[random.nextInt(KINDS.length)];
                return new Model.Cond("kind = " + kind, e -> e.kind.equals(kind));
            case 3:
                return new Model.Cond("has " + name, e -> e.fields.containsKey(name));
            case 4:
                if (above == 0) {
                    return new Model.Cond("not kind = x", e -> !e.kind.equals("x"));
                }
                int maker = random.nextInt(above);
                return new Model.Cond("alert " + rules.get(maker).name, e -> e.maker == maker);
            case 5:
                return likeOrIn(name);
            default:
                return comparison(name);
        }
    }

    private Model.Cond likeOrIn(String name) {
        if (random.nextBoolean()) {
            String told = PATTERNS[random.nextInt(PATTERNS.length)];
            StringBuilder regex = new StringBuilder();
            for (char c : told.toCharArray()) {
                regex.append(c == '?' ? "." : c == '*' ? ".*" : Pattern.quote("" + c));
            }
            Pattern pattern = Pattern.compile(regex.toString());
            return new Model.Cond(name + " like \"" + told + "\"", e -> e.fields.get(name) instanceof String
                    && pattern.matcher((String) e.fields.get(name)).matches());
        }
        int bits = random.nextInt(33);
        return new Model.Cond(name + " in 10.0.1.2/" + bits, e -> {
            if (!(e.fields.get(name) instanceof List)) {
                return false;
            }
            return binary(List.of(10, 0, 1, 2)).substring(0, bits)
                    .equals(binary((List<?>) e.fields.get(name)).substring(0, bits));
        });
    }

    private static String binary(List<?> address) {
        StringBuilder out = new StringBuilder();
        for (Object octet : address) {
            out.append(Integer.toBinaryString(256 + (Integer) octet).substring(1));
        }
        return out.toString();
    }

    private Model.Cond comparison(String name) {
        Object value = randomValue();
        String[] signs = {"=", "!=", "<", "<=", ">", ">="};
        String sign = signs[random.nextInt(value instanceof Integer ? 6 : 2)];
        StringBuilder told = new StringBuilder();
        if (value instanceof List) {
            for (Object octet : (List<?>) value) {
                told.append(told.length() == 0 ? "" : ".").append(octet);
            }
        } else {
            told.append(value instanceof String ? "\"" + value + "\"" : "" + value);
        }
        String space = random.nextBoolean() ? " " : "";
        return new Model.Cond(name + space + sign + space + told, e -> {
            Object own = e.fields.get(name);
            if (own == null || sortOf(own) != sortOf(value)) {
                return false;
            }
            int order = value instanceof Integer ? ((Integer) own).compareTo((Integer) value) : own.equals(value) ? 0 : 1;
            switch (sign) {
                case "=":
                    return order == 0;
                case "!=":
                    return order != 0;
                case "<":
                    return order < 0;
                case "<=":
                    return order <= 0;
                case ">":
                    return order > 0;
                default:
                    return order >= 0;
            }
        });
    }

    private static int sortOf(Object value) {
        return value instanceof Integer ? 0 : value instanceof String ? 1 : 2;
    }
}
