import java.util.ArrayList;
import java.util.List;
import java.util.function.Supplier;

/** A BenchOrders with calls that take whole texts, and checks that count what is not as due. */
final class Bench {
    static final int LEAST = Integer.MIN_VALUE, GREATEST = Integer.MAX_VALUE;

    static int wrong = 0;

    final BenchOrders it = new BenchOrders();

    interface Call {
        int on(BenchOrders x);
    }

    static void due(String what, long got, long want) {
        if (got != want) {
            wrong++;
            System.out.println(what + " answered " + got + ", due is " + want);
        }
    }

    static void end() {
        System.out.println(wrong == 0 ? "all answers are as due" : wrong + " answers are not as due");
        if (wrong != 0) {
            System.exit(1);
        }
    }

    Bench text(String s) {
        it.clear();
        for (int i = 0; i < s.length(); i++) {
            it.type(s.charAt(i));
        }
        return this;
    }

    int node(int p, String name, int k, int m, int leftOut) {
        text(name);
        return it.node(p, k, m, leftOut);
    }

    int sends(String message) {
        text(message);
        return it.sends();
    }

    int finds(String row) {
        text(row);
        return it.finds();
    }

    /** Sends the message: so many UNITS are done, and the FAULTS then are these. */
    void dueSent(String message, int units, int... faults) {
        due("sends of '" + message + "'", sends(message), units);
        dueFaults("behind '" + message + "'", faults);
    }

    /** As dueSent, but on FAULTS that were taken out ahead of it and are taken out behind it. */
    void dueAlone(String message, int units, int... faults) {
        takeFaults();
        dueSent(message, units, faults);
        takeFaults();
    }

    void takeFaults() {
        while (it.state(12) > 0) {
            it.fault();
        }
    }

    void takeAnswers() {
        while (it.state(11) > 0) {
            it.answer();
        }
    }

    void dueFaults(String where, int... faults) {
        due(where + ": state(12)", it.state(12), faults.length);
        for (int i = 0; i < faults.length; i++) {
            due(where + ": faults(" + i + ")", it.faults(i), faults[i]);
        }
        due(where + ": behind the last of FAULTS", it.faults(faults.length), BenchOrders.NONE);
    }

    void dueAnswers(String where, int... answers) {
        due(where + ": state(11)", it.state(11), answers.length);
        for (int i = 0; i < answers.length; i++) {
            due(where + ": answers(" + i + ")", it.answers(i), answers[i]);
        }
        due(where + ": behind the last of ANSWERS", it.answers(answers.length), BenchOrders.NONE);
    }

    void duePending(String where, int... nodes) {
        due(where + ": state(9)", it.state(9), nodes.length);
        for (int i = 0; i < nodes.length; i++) {
            due(where + ": pending(" + i + ")", it.pending(i), nodes[i]);
        }
        due(where + ": behind the last of PENDING", it.pending(nodes.length), BenchOrders.NONE);
    }

    void dueNumbers(String where, int n, int first, int second, int third) {
        due(where + ": value(" + n + ", 1)", it.value(n, 1), first);
        due(where + ": value(" + n + ", 2)", it.value(n, 2), second);
        due(where + ": value(" + n + ", 3)", it.value(n, 3), third);
    }

    void dueState(String where, int what, int want) {
        due(where + ": state(" + what + ")", it.state(what), want);
    }

    /** All of state(0) to state(13). */
    void dueStates(String where, int... want) {
        due(where + ": how many are told", want.length, 14);
        for (int what = 0; what < want.length; what++) {
            dueState(where, what, want[what]);
        }
    }

    void dueTold(String where, int bad, int no, int full) {
        due(where + ": told(0)", it.told(0), bad);
        due(where + ": told(1)", it.told(1), no);
        due(where + ": told(2)", it.told(2), full);
    }

    /** All that can be seen but how often refused: bytes, STATES, state, NODES, numbers, rows. */
    List<Integer> seen() {
        List<Integer> all = new ArrayList<>();
        all.add(it.told(3));
        all.add(it.told(4));
        for (int what = 0; what <= 13; what++) {
            all.add(it.state(what));
        }
        for (int n = 0; n < it.state(13); n++) {
            for (int what = 0; what <= 8; what++) {
                all.add(it.of(n, what));
            }
            for (int s = 1; s <= 3 && it.of(n, 1) == 1; s++) {
                all.add(it.value(n, s));
            }
        }
        for (int i = 0; i < it.state(11); i++) {
            all.add(it.answers(i));
        }
        for (int i = 0; i < it.state(12); i++) {
            all.add(it.faults(i));
        }
        for (int i = 0; i < it.state(9); i++) {
            all.add(it.pending(i));
        }
        return all;
    }

    static void dueSame(String where, List<Integer> got, List<Integer> want) {
        due(where + ": how many are seen", got.size(), want.size());
        for (int i = 0; i < got.size() && i < want.size(); i++) {
            due(where + ": seen at " + i, got.get(i), want.get(i));
        }
    }

    /**
     * The call is refused on what made gives, changing nothing but how often: a twin without it shows the same,
     * and goes back to the same.
     */
    static void dueRefused(String call, Supplier<Bench> made, int why, Call refused) {
        Bench a = made.get();
        Bench b = made.get();
        due(call, refused.on(a.it), why);
        for (int what = 0; what <= 2; what++) {
            int more = BenchOrders.BAD - why == what ? 1 : 0;
            due(call + ": told(" + what + ")", a.it.told(what), b.it.told(what) + more);
        }
        dueSame(call, a.seen(), b.seen());
        for (int i = b.it.told(4); i > 0; i--) {
            due(call + ": back", a.it.back(), b.it.back());
            for (int what = 0; what <= 13; what++) {
                due(call + ": back, state(" + what + ")", a.it.state(what), b.it.state(what));
            }
        }
    }
}
