import java.util.ArrayList;
import java.util.List;
import java.util.Locale;
import java.util.regex.Matcher;
import java.util.regex.Pattern;

/**
 * A second writing of the document, slow and by other means (patterns, texts, lists, whole copies), to compare
 * BenchOrders with. It shares no code with it.
 */
final class Model {
    private static final int NONE = -10001, BAD = -10002, NO = -10003, FULL = -10004;
    private static final String WORD = "[A-Za-z]{1,8}[1-9]?";
    private static final Pattern ROW = Pattern.compile(WORD + "(:" + WORD + "){0,3}");
    private static final Pattern UNIT = Pattern.compile(
        " *(?:\\*(?<common>[A-Za-z]{1,8})|(?<colon>:?)(?<row>" + WORD + "(?::" + WORD + "){0,3}))(?<ask>\\??)"
        + "(?: +(?<value>[+-]?[0-9]{1,6}[Kk]?|[Oo][Nn]|[Oo][Ff][Ff]))? *", Pattern.DOTALL);

    private static final class N {
        int parent, kind, most, out, low, high, done;
        String name;
        int[] numbers = new int[3];

        N copy() {
            N c = new N();
            c.parent = parent;
            c.kind = kind;
            c.most = most;
            c.out = out;
            c.low = low;
            c.high = high;
            c.done = done;
            c.name = name;
            c.numbers = numbers.clone();
            return c;
        }

        String shortForm() {
            return name.replaceAll("[a-z]", "");
        }

        boolean fits(String word) {
            String letters = word.replaceAll("[0-9]", "");
            String figure = word.substring(letters.length());
            boolean named = letters.equalsIgnoreCase(name) || letters.equalsIgnoreCase(shortForm());
            return named && (figure.isEmpty() || Integer.parseInt(figure) <= most);
        }
    }

    private static final class S {
        List<N> nodes = new ArrayList<>();
        List<Integer> answers = new ArrayList<>(), faults = new ArrayList<>(), pending = new ArrayList<>();
        int events, ese, sre, conditions, edges, rises = 15, falls, enable, waiting;

        S copy() {
            S c = new S();
            for (N n : nodes) {
                c.nodes.add(n.copy());
            }
            c.answers.addAll(answers);
            c.faults.addAll(faults);
            c.pending.addAll(pending);
            c.events = events;
            c.ese = ese;
            c.sre = sre;
            c.conditions = conditions;
            c.edges = edges;
            c.rises = rises;
            c.falls = falls;
            c.enable = enable;
            c.waiting = waiting;
            return c;
        }
    }

    private S s = new S();
    private final List<S> states = new ArrayList<>();
    private String text = "";
    private final int[] refused = new int[3];

    Model() {
        N root = new N();
        root.parent = NONE;
        root.name = "";
        s.nodes.add(root);
    }

    private int refuse(int why) {
        refused[BAD - why]++;
        return why;
    }

    private void keep() {
        states.add(s.copy());
        if (states.size() > 5) {
            states.remove(0);
        }
    }

    private boolean isNode(int n, int kind) {
        return n >= 0 && n < s.nodes.size() && (kind < 0 || s.nodes.get(n).kind == kind);
    }

    int node(int p, int k, int m, int out) {
        if (!isNode(p, 0) || k < 0 || k > 3 || m < 0 || m > 3 || (out != 0 && out != 1)) {
            return refuse(BAD);
        }
        if (!text.matches("[A-Z]+[a-z]*") || text.length() > 8) {
            return refuse(NO);
        }
        if (s.nodes.size() == 16) {
            return refuse(FULL);
        }
        keep();
        N n = new N();
        n.parent = p;
        n.kind = k;
        n.most = m;
        n.out = out;
        n.name = text;
        n.high = k == 1 ? 9999 : 0;
        s.nodes.add(n);
        return s.nodes.size() - 1;
    }

    int range(int n, int a, int b) {
        if (!isNode(n, 1) || a < -9999 || a > 9999 || b < -9999 || b > 9999 || b < a) {
            return refuse(BAD);
        }
        keep();
        N it = s.nodes.get(n);
        int was = it.low;
        it.low = a;
        it.high = b;
        it.numbers = new int[] {a, a, a};
        return was;
    }

    int of(int n, int what) {
        if (!isNode(n, -1) || what < 0 || what > 8) {
            return refuse(BAD);
        }
        N it = s.nodes.get(n);
        return new int[] {
            it.parent, it.kind, it.most, it.out, it.low, it.high, it.shortForm().length(), it.name.length(), it.done
        }[what];
    }

    int value(int n, int suffix) {
        return !isNode(n, 1) || suffix < 1 || suffix > 3 ? refuse(BAD) : s.nodes.get(n).numbers[suffix - 1];
    }

    int type(int c) {
        if (c < 0 || c > 127) {
            return refuse(BAD);
        }
        if (text.length() == 100) {
            return refuse(FULL);
        }
        text += (char) c;
        return text.length();
    }

    int clear() {
        int was = text.length();
        text = "";
        return was;
    }

    /** FINDING: the NODE and its SUFFIX, or null. */
    private int[] find(int from, List<String> row, int suffix) {
        N at = s.nodes.get(from);
        if (row.isEmpty() && at.kind != 0) {
            return new int[] {from, suffix};
        }
        if (!row.isEmpty()) {
            String word = row.get(0);
            char last = word.charAt(word.length() - 1);
            for (int n = 0; n < s.nodes.size(); n++) {
                if (s.nodes.get(n).parent == from && s.nodes.get(n).fits(word)) {
                    int[] found = find(n, row.subList(1, row.size()), last <= '9' ? last - '0' : 1);
                    if (found != null) {
                        return found;
                    }
                }
            }
        }
        for (int n = 0; n < s.nodes.size(); n++) {
            if (s.nodes.get(n).parent == from && s.nodes.get(n).out == 1) {
                int[] found = find(n, row, 1);
                if (found != null) {
                    return found;
                }
            }
        }
        return null;
    }

    int finds() {
        if (!ROW.matcher(text).matches()) {
            return NONE;
        }
        int[] found = find(0, List.of(text.split(":")), 1);
        return found == null ? NONE : found[0];
    }

    private void raise(int fault) {
        s.events |= new int[] {0, 32, 16, 8, 4}[-fault / 100];
        if (s.faults.size() == 4) {
            s.faults.set(3, -350);
            s.events |= 8;
        } else {
            s.faults.add(fault);
        }
    }

    private void reply(int v) {
        if (s.answers.size() == 6) {
            raise(-430);
        } else {
            s.answers.add(v);
        }
    }

    int sends() {
        keep();
        int done = 0;
        List<String> branch = new ArrayList<>();
        for (String unit : text.split(";", -1)) {
            Matcher m = UNIT.matcher(unit);
            int fault = -102;
            if (m.matches()) {
                Integer v = m.group("value") == null ? null : number(m.group("value").toUpperCase(Locale.ROOT));
                boolean ask = m.group("ask").equals("?");
                fault = m.group("common") != null
                    ? common(m.group("common").toUpperCase(Locale.ROOT) + m.group("ask"), v)
                    : order(branch, m.group("colon").isEmpty(), m.group("row"), ask, v);
            }
            if (fault != 0) {
                raise(fault);
                break;
            }
            done++;
        }
        return done;
    }

    private static int number(String v) {
        if (v.startsWith("O")) {
            return v.equals("ON") ? 1 : 0;
        }
        return v.endsWith("K") ? 1000 * Integer.parseInt(v.substring(0, v.length() - 1)) : Integer.parseInt(v);
    }

    private int common(String word, Integer v) {
        if (!List.of("CLS", "ESE", "ESE?", "SRE", "SRE?", "ESR?", "STB?", "OPC", "OPC?", "RST").contains(word)) {
            return -113;
        }
        boolean wants = word.equals("ESE") || word.equals("SRE");
        if (v != null && !wants) {
            return -108;
        }
        if (v == null && wants) {
            return -109;
        }
        if (wants && (v < 0 || v > 255)) {
            raise(-222);
            return 0;
        }
        switch (word) {
            case "CLS" -> {
                s.events = 0;
                s.edges = 0;
                s.faults.clear();
                s.waiting = 0;
            }
            case "ESE" -> s.ese = v;
            case "SRE" -> s.sre = v;
            case "ESE?" -> reply(s.ese);
            case "SRE?" -> reply(s.sre);
            case "ESR?" -> {
                int e = s.events;
                s.events = 0;
                reply(e);
            }
            case "STB?" -> reply(sum());
            case "OPC?" -> reply(s.pending.isEmpty() ? 1 : 0);
            case "OPC" -> {
                if (s.pending.isEmpty()) {
                    s.events |= 1;
                } else {
                    s.waiting = 1;
                }
            }
            default -> {
                for (N n : s.nodes) {
                    n.numbers = new int[] {n.low, n.low, n.low};
                }
                s.pending.clear();
                s.waiting = 0;
            }
        }
        return 0;
    }

    private int order(List<String> branch, boolean withBranch, String told, boolean ask, Integer v) {
        List<String> row = new ArrayList<>(withBranch ? branch : List.of());
        row.addAll(List.of(told.split(":")));
        if (row.size() > 6) {
            return -102;
        }
        int[] found = find(0, row, 1);
        if (found == null) {
            return -113;
        }
        branch.clear();
        branch.addAll(row.subList(0, row.size() - 1));
        N it = s.nodes.get(found[0]);
        if (v != null && (ask || it.kind != 1)) {
            return -108;
        }
        if (v == null && !ask && it.kind == 1) {
            return -109;
        }
        if (ask) {
            reply(it.kind == 1 ? it.numbers[found[1] - 1] : it.done);
        } else if (it.kind == 1) {
            if (v < it.low || v > it.high) {
                raise(-222);
            } else {
                it.numbers[found[1] - 1] = v;
            }
        } else if (it.kind == 3 && s.pending.size() == 4) {
            raise(-222);
        } else {
            it.done++;
            if (it.kind == 3) {
                s.pending.add(found[0]);
            }
        }
        return 0;
    }

    private int take(List<Integer> row) {
        if (row.isEmpty()) {
            return refuse(NO);
        }
        keep();
        return row.remove(0);
    }

    int answer() {
        return take(s.answers);
    }

    int fault() {
        return take(s.faults);
    }

    int condition(int b, int v) {
        if (b < 0 || b > 3 || v < 0 || v > 1) {
            return refuse(BAD);
        }
        keep();
        int was = s.conditions >> b & 1;
        if (was == 0 && v == 1) {
            s.edges |= s.rises & 1 << b;
        }
        if (was == 1 && v == 0) {
            s.edges |= s.falls & 1 << b;
        }
        s.conditions = s.conditions & ~(1 << b) | v << b;
        return was;
    }

    int masks(int what, int v) {
        if (what < 0 || what > 2 || v < 0 || v > 15) {
            return refuse(BAD);
        }
        keep();
        int was = what == 0 ? s.rises : what == 1 ? s.falls : s.enable;
        s.rises = what == 0 ? v : s.rises;
        s.falls = what == 1 ? v : s.falls;
        s.enable = what == 2 ? v : s.enable;
        return was;
    }

    int edges() {
        keep();
        int was = s.edges;
        s.edges = 0;
        return was;
    }

    int finishes(int i) {
        if (i < 0 || i >= s.pending.size()) {
            return refuse(BAD);
        }
        keep();
        s.pending.remove(i);
        if (s.pending.isEmpty() && s.waiting == 1) {
            s.events |= 1;
            s.waiting = 0;
        }
        return s.pending.size();
    }

    private int sum() {
        int sum = (s.faults.isEmpty() ? 0 : 4) + (s.answers.isEmpty() ? 0 : 16) + ((s.events & s.ese) == 0 ? 0 : 32)
            + ((s.edges & s.enable) == 0 ? 0 : 128);
        return sum + ((sum & s.sre & ~64) == 0 ? 0 : 64);
    }

    int state(int what) {
        if (what < 0 || what > 13) {
            return refuse(BAD);
        }
        return new int[] {
            s.events, s.ese, s.sre, sum(), s.conditions, s.edges, s.rises, s.falls, s.enable, s.pending.size(), s.waiting,
            s.answers.size(), s.faults.size(), s.nodes.size()
        }[what];
    }

    private int at(List<Integer> row, int i) {
        return i < 0 ? refuse(BAD) : i >= row.size() ? NONE : row.get(i);
    }

    int answers(int i) {
        return at(s.answers, i);
    }

    int faults(int i) {
        return at(s.faults, i);
    }

    int pending(int i) {
        return at(s.pending, i);
    }

    int back() {
        if (states.isEmpty()) {
            return refuse(NO);
        }
        s = states.remove(states.size() - 1);
        return states.size();
    }

    int told(int what) {
        if (what < 0 || what > 4) {
            return refuse(BAD);
        }
        return what < 3 ? refused[what] : what == 3 ? text.length() : states.size();
    }

    long digest() {
        List<Integer> all = new ArrayList<>();
        for (int what = 0; what <= 4; what++) {
            all.add(told(what));
        }
        for (int what = 0; what <= 13; what++) {
            all.add(state(what));
        }
        for (int n = 0; n < s.nodes.size(); n++) {
            for (int what = 0; what <= 8; what++) {
                all.add(of(n, what));
            }
            for (int i = 1; i <= 3 && isNode(n, 1); i++) {
                all.add(value(n, i));
            }
        }
        all.addAll(s.answers);
        all.addAll(s.faults);
        all.addAll(s.pending);
        long h = 2783;
        for (int v : all) {
            h = 31 * h + v;
        }
        return h;
    }
}
