import java.util.ArrayList;
import java.util.HashMap;
import java.util.HashSet;
import java.util.List;
import java.util.Map;
import java.util.Set;
import java.util.TreeMap;
import java.util.function.Predicate;

/** The watch as the document tells it, without any haste: it keeps all and looks at all again. */
final class Model {
    static final int MOST = 4000;

    static final class Ev {
        int number;
        int time;
        String kind;
        TreeMap<String, Object> fields = new TreeMap<>();
        int maker = -1;
    }

    static final class Cond {
        final String text;
        final Predicate<Ev> holds;

        Cond(String text, Predicate<Ev> holds) {
            this.text = text;
            this.holds = holds;
        }
    }

    static final class Rule {
        int index;
        String name;
        String what;
        int n;
        String field;
        List<Cond> conds = new ArrayList<>();
        Cond unless;
        List<String> by = new ArrayList<>();
        int within;
        int quiet;
        int found;
        final List<Ev> looked = new ArrayList<>();
        final Set<Integer> settled = new HashSet<>();
        final Map<List<Object>, Integer> latestAlert = new HashMap<>();
        final Map<List<Object>, Integer> hushed = new HashMap<>();

        List<Object> keyOf(Ev e) {
            List<Object> key = new ArrayList<>();
            for (String name : by) {
                if (!e.fields.containsKey(name)) {
                    return null;
                }
                key.add(e.fields.get(name));
            }
            return key;
        }

        boolean may(Ev e) {
            if (!conds.get(0).holds.test(e)) {
                return false;
            }
            if (what.equals("distinct")) {
                return e.fields.containsKey(field);
            }
            return !what.equals("sum") || e.fields.get(field) instanceof Integer;
        }

        List<Ev> same(Ev e) {
            List<Ev> list = new ArrayList<>();
            for (Ev x : looked) {
                if (keyOf(x).equals(keyOf(e))) {
                    list.add(x);
                }
            }
            return list;
        }
    }

    static final class Told {
        int rule;
        int time;
        int start;
        int event;
        int hushed;
        List<Object> key;
    }

    final List<Rule> rules;
    final List<Ev> log = new ArrayList<>();
    final List<Told> told = new ArrayList<>();
    final List<Ev> waiting = new ArrayList<>();
    int made;
    int hushed;
    int now;
    int base;

    Model(List<Rule> rules) {
        this.rules = rules;
    }

    boolean arrive(Ev e) {
        advance(e.time);
        if (log.size() >= MOST) {
            return false;
        }
        base = e.time;
        come(e);
        comeWaiting();
        return true;
    }

    void come(Ev e) {
        e.number = log.size();
        log.add(e);
        for (int r = e.maker + 1; r < rules.size(); r++) {
            Rule rule = rules.get(r);
            if (rule.keyOf(e) == null) {
                continue;
            }
            rule.looked.add(e);
            int start = find(rule, e);
            if (start >= 0) {
                tell(rule, e, e.time, start);
            }
        }
    }

    void comeWaiting() {
        List<Ev> all = new ArrayList<>(waiting);
        waiting.clear();
        for (Ev e : all) {
            if (log.size() < MOST) {
                made++;
                come(e);
            }
        }
    }

    void tell(Rule rule, Ev e, int time, int start) {
        rule.found++;
        List<Object> key = rule.keyOf(e);
        Integer before = rule.latestAlert.get(key);
        if (before != null && before > time - rule.quiet) {
            hushed++;
            rule.hushed.merge(key, 1, Integer::sum);
            return;
        }
        Told t = new Told();
        t.rule = rule.index;
        t.time = time;
        t.start = start;
        t.event = e.number;
        t.key = key;
        t.hushed = rule.hushed.getOrDefault(key, 0);
        told.add(t);
        rule.hushed.put(key, 0);
        rule.latestAlert.put(key, time);
        if (e.maker < 0) {
            Ev event = new Ev();
            event.time = time;
            event.kind = "alert";
            event.maker = rule.index;
            for (int k = 0; k < rule.by.size(); k++) {
                event.fields.put(rule.by.get(k), key.get(k));
            }
            waiting.add(event);
        }
    }

    int find(Rule rule, Ev e) {
        List<Ev> same = rule.same(e);
        if (rule.what.equals("lack")) {
            return -1;
        }
        if (rule.what.equals("chain")) {
            return findChain(rule, same, e);
        }
        if (!rule.may(e)) {
            return -1;
        }
        List<Ev> in = new ArrayList<>();
        for (Ev x : same) {
            if (rule.may(x) && x.time > e.time - rule.within) {
                in.add(x);
            }
        }
        if (rule.what.equals("count")) {
            return in.size() >= rule.n ? in.get(in.size() - rule.n).number : -1;
        }
        Set<Object> values = new HashSet<>();
        long sum = 0;
        for (Ev x : in) {
            values.add(x.fields.get(rule.field));
            sum += x.fields.get(rule.field) instanceof Integer ? (Integer) x.fields.get(rule.field) : 0;
        }
        boolean enough = rule.what.equals("sum") ? sum >= rule.n : values.size() >= rule.n;
        return enough ? in.get(0).number : -1;
    }

    /** Tries each e1 from the latest on; the rest of a chain may be met as early as can be. */
    int findChain(Rule rule, List<Ev> same, Ev e) {
        int n = rule.conds.size();
        if (!rule.conds.get(n - 1).holds.test(e)) {
            return -1;
        }
        if (n == 1) {
            return e.number;
        }
        for (int first = same.size() - 2; first >= 0; first--) {
            Ev e1 = same.get(first);
            if (e1.time <= e.time - rule.within || !rule.conds.get(0).holds.test(e1)) {
                continue;
            }
            int met = 1;
            boolean broken = false;
            for (int k = first + 1; k < same.size() - 1; k++) {
                if (met < n - 1 && rule.conds.get(met).holds.test(same.get(k))) {
                    met++;
                }
                broken |= rule.unless != null && rule.unless.holds.test(same.get(k));
            }
            if (met == n - 1 && !broken) {
                return e1.number;
            }
        }
        return -1;
    }

    /** The events that still wait for a lack of a rule, by their numbers. */
    List<Ev> pending(Rule rule) {
        List<Ev> list = new ArrayList<>();
        for (Ev e : rule.looked) {
            if (!rule.conds.get(0).holds.test(e) || rule.settled.contains(e.number)) {
                continue;
            }
            boolean answered = false;
            for (Ev x : rule.same(e)) {
                answered |= x.number > e.number && x.time <= e.time + rule.within
                        && rule.conds.get(1).holds.test(x);
            }
            if (!answered) {
                list.add(e);
            } else {
                rule.settled.add(e.number);
            }
        }
        return list;
    }

    void advance(int t) {
        while (true) {
            int least = Integer.MAX_VALUE;
            for (Rule rule : rules) {
                if (rule.what.equals("lack")) {
                    for (Ev e : pending(rule)) {
                        least = Math.min(least, e.time + rule.within);
                    }
                }
            }
            if (least >= t) {
                break;
            }
            now = least;
            for (Rule rule : rules) {
                if (rule.what.equals("lack")) {
                    for (Ev e : pending(rule)) {
                        if (e.time + rule.within == least) {
                            rule.settled.add(e.number);
                            tell(rule, e, least, e.number);
                        }
                    }
                }
            }
            comeWaiting();
        }
        now = t;
    }

    int holds(Rule rule) {
        if (rule.what.equals("lack")) {
            return pending(rule).size();
        }
        if (!rule.what.equals("chain")) {
            int held = 0;
            for (Ev e : rule.looked) {
                held += rule.may(e) && e.time > now - rule.within ? 1 : 0;
            }
            return held;
        }
        Map<List<Object>, List<Ev>> keys = new HashMap<>();
        for (Ev e : rule.looked) {
            keys.computeIfAbsent(rule.keyOf(e), k -> new ArrayList<>()).add(e);
        }
        int pairs = 0;
        for (List<Ev> list : keys.values()) {
            for (int j = 1; j < rule.conds.size(); j++) {
                pairs += begun(rule, list, j) ? 1 : 0;
            }
        }
        return pairs;
    }

    private boolean begun(Rule rule, List<Ev> list, int j) {
        for (int first = 0; first < list.size(); first++) {
            Ev e1 = list.get(first);
            if (e1.time <= now - rule.within || !rule.conds.get(0).holds.test(e1)) {
                continue;
            }
            int met = 1;
            boolean broken = false;
            for (int k = first + 1; k < list.size(); k++) {
                if (met < j && rule.conds.get(met).holds.test(list.get(k))) {
                    met++;
                }
                broken |= rule.unless != null && rule.unless.holds.test(list.get(k));
            }
            if (met >= j && !broken) {
                return true;
            }
        }
        return false;
    }
}
