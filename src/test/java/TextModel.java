import java.util.ArrayList;
import java.util.HashSet;
import java.util.List;
import java.util.Set;
import java.util.regex.Matcher;
import java.util.regex.Pattern;

/** The grammar of rules as the document writes it down; a fault is thrown as it is met. */
final class TextModel {
    static final class Fault extends RuntimeException {
        private static final long serialVersionUID = 1;
        final int kind;
        final int place;

        Fault(int kind, int place) {
            this.kind = kind;
            this.place = place;
        }
    }

    private static final Pattern TOKEN = Pattern.compile(
            "(?<word>[a-z][a-z0-9]*)|(?<address>[0-9]+\\.[a-z0-9.]*)|(?<number>-?[0-9][a-z0-9]*)"
            + "|(?<text>\"[ !#-~]{0,24}\")|(?<sign>!=|<=|>=|[(),;/=<>])");
    private static final Set<String> QUOTED = Set.of("rule", "by", "within", "quiet", "count", "of", "distinct", "sum",
            "chain", "then", "unless", "lack", "or", "and", "not", "kind", "has", "alert", "like", "in");

    private static final int MOST = 2000;

    private final String text;
    private int at;
    private String token;
    private char sort;
    private int place;
    private final List<String> names = new ArrayList<>();

    private TextModel(String whole) {
        text = whole;
        next();
    }

    /** How many rules there are; throws the Fault. */
    static int read(String text) {
        TextModel model = new TextModel(text);
        while (model.sort != 'e') {
            model.rule();
        }
        return model.names.size();
    }

    private void next() {
        while (at < text.length() && (text.charAt(at) == ' ' || text.charAt(at) == '\n')) {
            at++;
        }
        place = Math.min(at, MOST);
        token = "";
        if (at >= text.length() || at >= MOST) {
            sort = text.length() > MOST ? 'b' : 'e';
            return;
        }
        Matcher matcher = TOKEN.matcher(text);
        matcher.region(at, text.length());
        if (!matcher.lookingAt()) {
            sort = 'b';
            return;
        }
        token = matcher.group();
        at = matcher.end();
        if (matcher.group("word") != null) {
            sort = !token.matches("[a-z]{1,8}") ? 'b' : QUOTED.contains(token) ? 'q' : 'w';
        } else if (matcher.group("address") != null) {
            sort = token.matches("(([01]?[0-9]{1,2}|2[0-4][0-9]|25[0-5])(\\.(?!$)|$)){4}") ? 'a' : 'b';
        } else if (matcher.group("number") != null) {
            boolean good = token.matches("-?[0-9]{1,10}");
            good = good && Long.parseLong(token) == (int) Long.parseLong(token);
            sort = good ? 'n' : 'b';
        } else {
            sort = matcher.group("text") != null ? 't' : 's';
        }
    }

    private Fault fault(int kind) {
        return new Fault(sort == 'b' ? 1 : kind, place);
    }

    private boolean is(String wanted) {
        return (sort == 'q' || sort == 's') && token.equals(wanted);
    }

    private void need(String wanted) {
        if (!is(wanted)) {
            throw fault(2);
        }
        next();
    }

    private boolean may(String wanted) {
        boolean there = is(wanted);
        if (there) {
            next();
        }
        return there;
    }

    private String name() {
        if (sort != 'w') {
            throw fault(2);
        }
        String name = token;
        next();
        return name;
    }

    private void number(long least, long most) {
        if (sort != 'n') {
            throw fault(2);
        }
        long number = Long.parseLong(token);
        if (number < least || number > most) {
            throw fault(3);
        }
        next();
    }

    private void value(String sorts) {
        if (sorts.indexOf(sort) < 0) {
            throw fault(2);
        }
        next();
    }

    private void rule() {
        if (is("rule") && names.size() == 12) {
            throw fault(4);
        }
        need("rule");
        if (sort == 'w' && names.contains(token)) {
            throw fault(5);
        }
        String own = name();
        what();
        if (may("by")) {
            Set<String> by = new HashSet<>();
            do {
                if (sort == 'w' && by.size() == 3) {
                    throw fault(4);
                }
                if (sort == 'w' && by.contains(token)) {
                    throw fault(5);
                }
                by.add(name());
            } while (may(","));
        }
        need("within");
        number(1, 1000000);
        if (may("quiet")) {
            number(0, 1000000);
        }
        need(";");
        names.add(own);
    }

    private void what() {
        if (may("count")) {
            number(1, 1000);
            need("of");
            cond(0);
        } else if (is("distinct") || is("sum")) {
            long most = is("sum") ? 2147483647L : 1000;
            next();
            number(1, most);
            name();
            need("of");
            cond(0);
        } else if (may("chain")) {
            cond(0);
            int conds = 1;
            while (is("then")) {
                if (conds == 5) {
                    throw fault(4);
                }
                next();
                cond(0);
                conds++;
            }
            if (may("unless")) {
                cond(0);
            }
        } else {
            need("lack");
            cond(0);
            need("then");
            cond(0);
        }
    }

    private void cond(int inside) {
        do {
            do {
                one(inside);
            } while (may("and"));
        } while (may("or"));
    }

    private void one(int inside) {
        if ((is("not") || is("(")) && inside > 12) {
            throw fault(4);
        }
        if (may("not")) {
            one(inside + 1);
        } else if (may("(")) {
            cond(inside + 1);
            need(")");
        } else if (may("kind")) {
            need("=");
            value("wq");
        } else if (may("has")) {
            name();
        } else if (may("alert")) {
            if (sort == 'w' && !names.contains(token)) {
                throw fault(5);
            }
            name();
        } else {
            name();
            test();
        }
    }

    private void test() {
        if (may("like")) {
            value("t");
        } else if (may("in")) {
            value("a");
            need("/");
            number(0, 32);
        } else if (is("=") || is("!=")) {
            next();
            value("nta");
        } else if (is("<") || is("<=") || is(">") || is(">=")) {
            next();
            value("n");
        } else {
            throw fault(2);
        }
    }
}
