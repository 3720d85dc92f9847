import java.util.Random;

/** Random runs of calls, the same ones each time, on BenchOrders and on Model: every answer is to be the same. */
public final class ModelTest {
    private static final String[] NAMES = {"A", "Ab", "AB", "B", "Ba", "SOURce", "SOUR", "LEVel", "ABCDEFGH", "Abcdefgh", "C"};
    private static final String[] COMMON = {"CLS", "ESE", "SRE", "ESR", "STB", "OPC", "RST", "FOO", "ABCDEFGHI"};
    private static final String[] VALUES = {
        "0", "1", "-1", "+7", "255", "256", "9999", "10000", "9K", "10k", "-9k", "ON", "off", "000001", "999999K", "1234567", "+",
        "ONN", "5 5", "--1", "1KK", "12", "16", "32", "48", "63", "64", "191"
    };
    private static final String SIGNS = "AaBbCSOURce0123459:;:;:; ?*+-Kk\t@[`{~\u0000\u007f";

    private final Random random;
    private BenchOrders x;
    private Model y;
    private StringBuilder log;
    private int calls;

    private ModelTest(long seed) {
        random = new Random(seed);
    }

    public static void main(String[] args) {
        int runs = args.length > 0 ? Integer.parseInt(args[0]) : 8000;
        for (int seed = 1; seed <= runs && Bench.wrong < 10; seed++) {
            new ModelTest(seed).run();
        }
        Bench.end();
    }

    private void run() {
        x = new BenchOrders();
        y = new Model();
        log = new StringBuilder();
        int nodes = random.nextInt(random.nextBoolean() ? 17 : 7);
        for (int i = 0; i < nodes; i++) {
            makeNode();
        }
        int wrong = Bench.wrong;
        // What the 513th call of an object answers is free; a round has at most 250.
        while (calls <= 512 - 250 && Bench.wrong == wrong) {
            if (random.nextInt(3) > 0) {
                typeText(message());
                due("sends()", x.sends(), y.sends());
                typeText(random.nextInt(4) == 0 ? message() : row(random.nextInt(5) + 1));
                due("finds()", x.finds(), y.finds());
            }
            other(random.nextInt(20));
            due("digest()", x.digest(), y.digest());
        }
    }

    private void due(String call, long got, long want) {
        calls++;
        log.append(call).append(' ');
        if (got != want) {
            Bench.due(log + "\n  " + call, got, want);
        }
    }

    private String pick(String[] from) {
        return from[random.nextInt(from.length)];
    }

    private void typeText(String s) {
        due("clear()", x.clear(), y.clear());
        for (char c : s.toCharArray()) {
            calls++;
            int got = x.type(c);
            if (got != y.type(c)) {
                due("type(" + (int) c + ")", got, -1);
            }
        }
        log.append('\'').append(s).append("' ");
    }

    private void makeNode() {
        typeText(random.nextInt(12) == 0 ? pick(COMMON).toLowerCase() : pick(NAMES));
        int p = random.nextInt(10) == 0 ? random.nextInt(18) - 1 : branch();
        int k = random.nextInt(3) == 0 ? 0 : random.nextInt(4);
        int m = random.nextInt(4);
        int out = random.nextInt(3) == 0 ? 1 : 0;
        due("node(" + p + ", " + k + ", " + m + ", " + out + ")", x.node(p, k, m, out), y.node(p, k, m, out));
    }

    private int branch() {
        for (int i = 0; i < 8; i++) {
            int p = random.nextInt(y.state(13));
            if (y.of(p, 1) == 0) {
                return sameOf(p);
            }
        }
        return 0;
    }

    private int sameOf(int p) {
        due("of(" + p + ", 1)", x.of(p, 1), y.of(p, 1));
        return p;
    }

    private String word() {
        String name = pick(NAMES);
        switch (random.nextInt(4)) {
            case 0: name = name.replaceAll("[a-z]", ""); break;
            case 1: name = name.toLowerCase(); break;
            case 2: name = name.toUpperCase(); break;
            default: break;
        }
        return random.nextInt(3) == 0 ? name + (random.nextInt(12) == 0 ? random.nextInt(12) : 1 + random.nextInt(3)) : name;
    }

    private String row(int words) {
        StringBuilder b = new StringBuilder(word());
        for (int i = 1; i < words; i++) {
            b.append(':').append(word());
        }
        return b.toString();
    }

    private String blanks(int often) {
        return random.nextInt(often) == 0 ? " ".repeat(1 + random.nextInt(2)) : "";
    }

    private String unit() {
        StringBuilder b = new StringBuilder(blanks(5));
        boolean ask = random.nextInt(3) == 0;
        boolean value = random.nextInt(3) > 0 && !(ask && random.nextInt(8) > 0);
        if (random.nextInt(3) == 0) {
            b.append('*').append(random.nextBoolean() ? pick(COMMON) : pick(COMMON).toLowerCase());
            value = value && random.nextInt(3) == 0 || b.toString().matches(".*(?i)(ESE|SRE)") && !ask;
        } else if (y.state(13) > 1 && random.nextInt(8) > 0) {
            int n = 1 + random.nextInt(y.state(13) - 1);
            b.append(pathOf(n));
            boolean isValue = y.of(n, 1) == 1;
            value = random.nextInt(8) == 0 ? value : isValue && !ask;
        } else {
            b.append(random.nextInt(3) == 0 ? ":" : "").append(row(random.nextInt(5) == 0 ? 1 + random.nextInt(5) : 1));
        }
        b.append(ask ? "?" : "");
        if (value) {
            b.append(random.nextInt(30) == 0 ? "" : " ").append(blanks(4)).append(pick(VALUES));
        }
        return b.append(blanks(5)).toString();
    }

    /** A path to NODE n by names of the test's own list that fit, some of those LEFT OUT not told. */
    private String pathOf(int n) {
        String path = "";
        int most = 0;
        for (int at = n; at > 0 && most < 16; at = y.of(at, 0), most++) {
            if (y.of(at, 3) == 1 && random.nextBoolean() && !path.isEmpty()) {
                continue;
            }
            String name = nameOf(at);
            int m = y.of(at, 2);
            String figure = m > 0 && random.nextInt(3) == 0 ? "" + (1 + random.nextInt(m)) : "";
            path = name + figure + (path.isEmpty() ? "" : ":" + path);
        }
        int cut = random.nextInt(3) == 0 ? path.lastIndexOf(':') : -1;
        return cut >= 0 ? path.substring(cut + 1) : (random.nextInt(3) > 0 ? ":" : "") + path;
    }

    private String nameOf(int n) {
        for (int i = 0; i < 40; i++) {
            String name = pick(NAMES);
            if (name.length() == y.of(n, 7) && name.replaceAll("[a-z]", "").length() == y.of(n, 6)) {
                return random.nextBoolean() ? name.toLowerCase() : name.replaceAll("[a-z]", "");
            }
        }
        return "Q";
    }

    private String message() {
        StringBuilder b = new StringBuilder();
        int units = 1 + random.nextInt(random.nextInt(4) == 0 ? 12 : 4);
        for (int i = 0; i < units; i++) {
            b.append(i > 0 ? ";" : "").append(unit());
        }
        if (random.nextInt(6) == 0 && b.length() > 0) {
            b.setCharAt(random.nextInt(b.length()), SIGNS.charAt(random.nextInt(SIGNS.length())));
        }
        if (random.nextInt(10) == 0) {
            b.insert(random.nextInt(b.length() + 1), SIGNS.charAt(random.nextInt(SIGNS.length())));
        }
        if (random.nextInt(40) == 0) {
            b.setLength(random.nextInt(b.length() + 1));
        }
        // A few bytes more than THE TEXT takes.
        b.setLength(Math.min(b.length(), 103));
        return b.toString();
    }

    private int number(int around) {
        switch (random.nextInt(40)) {
            case 0: return Integer.MIN_VALUE;
            case 1: return Integer.MAX_VALUE;
            case 2: return -1;
            case 3: return random.nextInt();
            default: return random.nextInt(around + 2);
        }
    }

    private void other(int which) {
        int i = number(15);
        int j = number(8);
        int few = number(3);
        switch (which) {
            case 0: makeNode(); break;
            case 1:
            case 2: changeRange(i); break;
            case 3: due("of(" + i + ", " + j + ")", x.of(i, j), y.of(i, j)); break;
            case 4: due("value(" + i + ", " + few + ")", x.value(i, few), y.value(i, few)); break;
            case 5: due("type(" + i + ")", x.type(i), y.type(i)); break;
            case 6: due("answer()", x.answer(), y.answer()); break;
            case 7: due("fault()", x.fault(), y.fault()); break;
            case 8:
            case 9: due("condition(" + few + ", " + i % 2 + ")", x.condition(few, i % 2), y.condition(few, i % 2)); break;
            case 10: due("masks(" + few + ", " + i + ")", x.masks(few, i), y.masks(few, i)); break;
            case 11: due("edges()", x.edges(), y.edges()); break;
            case 12:
            case 13: due("finishes(" + few + ")", x.finishes(few), y.finishes(few)); break;
            case 14: due("state(" + i + ")", x.state(i), y.state(i)); break;
            case 15: due("answers(" + j + ")", x.answers(j), y.answers(j)); break;
            case 16: due("faults(" + j + ")", x.faults(j), y.faults(j)); break;
            case 17: due("pending(" + few + ")", x.pending(few), y.pending(few)); break;
            case 18: goBack(); break;
            default: due("told(" + few + ")", x.told(few), y.told(few)); break;
        }
    }

    private void changeRange(int n) {
        int a = random.nextInt(12) == 0 ? number(20000) : random.nextInt(40) - 20;
        int b = random.nextInt(12) == 0 ? number(20000) : a + random.nextInt(300) - 3;
        due("range(" + n + ", " + a + ", " + b + ")", x.range(n, a, b), y.range(n, a, b));
    }

    private void goBack() {
        for (int i = random.nextInt(7); i >= 0; i--) {
            due("back()", x.back(), y.back());
        }
    }
}
