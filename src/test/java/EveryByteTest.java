/**
 * Each byte at each place of some MESSAGES, put in, put for another or taken out: BenchOrders and Model answer the
 * same. What can stand at a place, and what can not, is an edge at every byte.
 */
public final class EveryByteTest {
    private static final String[] MESSAGES = {
        "S2:V3 +12K;V?;*ESE 5", " :So:C1:L OFF ; L2? ", "*ESR?;:A;s:v2 -9999;*SRE 255", "G:G:G:X;G:G:Y;Y?", "C 7;*OPC;*STB?",
        "Abcdefgh 000001;abcdefgH3?"
    };
    private static final String[] ROWS = {"S2:V3", "So:C1:L", "G:G:G:Y", "A", "Abcdefgh3"};

    private EveryByteTest() {
    }

    public static void main(String[] args) {
        for (String message : MESSAGES) {
            for (int at = 0; at <= message.length(); at++) {
                String front = message.substring(0, at);
                String rest = message.substring(at);
                compare(front + (rest.isEmpty() ? "" : rest.substring(1)));
                for (int c = 0; c <= 127; c++) {
                    compare(front + (char) c + rest);
                    compare(front + (char) c + (rest.isEmpty() ? "" : rest.substring(1)));
                }
            }
        }
        for (String row : ROWS) {
            for (int at = 0; at <= row.length(); at++) {
                for (int c = 0; c <= 127; c++) {
                    compare(row.substring(0, at) + (char) c + row.substring(at));
                }
            }
        }
        Bench.end();
    }

    private static void compare(String text) {
        BenchOrders x = new BenchOrders();
        Model y = new Model();
        node(x, y, "So", 0, 0, 2, 0);
        node(x, y, "Vo", 1, 1, 3, 0);
        node(x, y, "C", 1, 0, 1, 1);
        node(x, y, "L", 3, 1, 3, 1);
        node(x, y, "A", 0, 3, 0, 0);
        node(x, y, "G", 0, 0, 0, 0);
        node(x, y, "G", 6, 0, 0, 0);
        node(x, y, "G", 7, 0, 0, 1);
        node(x, y, "Xx", 8, 2, 0, 0);
        node(x, y, "G", 8, 0, 0, 0);
        node(x, y, "Y", 10, 1, 0, 0);
        node(x, y, "Abcdefgh", 0, 1, 3, 0);
        x.range(2, -9999, 9999);
        y.range(2, -9999, 9999);
        type(x, y, text);
        Bench.due("finds of '" + text + "'", x.finds(), y.finds());
        Bench.due("sends of '" + text + "'", x.sends(), y.sends());
        Bench.due("digest behind '" + text + "'", x.digest(), y.digest());
    }

    private static void type(BenchOrders x, Model y, String text) {
        x.clear();
        y.clear();
        for (int i = 0; i < text.length(); i++) {
            x.type(text.charAt(i));
            y.type(text.charAt(i));
        }
    }

    private static void node(BenchOrders x, Model y, String name, int p, int k, int m, int leftOut) {
        type(x, y, name);
        Bench.due("node " + name, x.node(p, k, m, leftOut), y.node(p, k, m, leftOut));
    }
}
