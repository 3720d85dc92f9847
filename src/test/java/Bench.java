/** A BenchOrders with calls that take whole texts, and checks that count what is not as due. */
final class Bench {
    static int wrong = 0;

    final BenchOrders it = new BenchOrders();

    static void due(String what, long got, long want) {
        if (got != want) {
            wrong++;
            System.out.println(what + " answered " + got + ", due is " + want);
        }
    }

    static void end() {
        System.out.println(wrong == 0 ? "all answers are as due" : wrong + " answers are not as due");
        if (wrong != 0) {
            System.exit(1);
        }
    }

    Bench text(String s) {
        it.clear();
        for (int i = 0; i < s.length(); i++) {
            it.type(s.charAt(i));
        }
        return this;
    }

    int node(int p, String name, int k, int m, int leftOut) {
        text(name);
        return it.node(p, k, m, leftOut);
    }

    int sends(String message) {
        text(message);
        return it.sends();
    }

    int finds(String row) {
        text(row);
        return it.finds();
    }

    /** Sends the message: so many UNITS are done, and the FAULTS then are these. */
    void dueSent(String message, int units, int... faults) {
        due("sends of '" + message + "'", sends(message), units);
        dueFaults("behind '" + message + "'", faults);
    }

    /** As dueSent, but on FAULTS that were taken out ahead of it and are taken out behind it. */
    void dueAlone(String message, int units, int... faults) {
        takeFaults();
        dueSent(message, units, faults);
        takeFaults();
    }

    void takeFaults() {
        while (it.state(12) > 0) {
            it.fault();
        }
    }

    void takeAnswers() {
        while (it.state(11) > 0) {
            it.answer();
        }
    }

    void dueFaults(String where, int... faults) {
        due(where + ": state(12)", it.state(12), faults.length);
        for (int i = 0; i < faults.length; i++) {
            due(where + ": faults(" + i + ")", it.faults(i), faults[i]);
        }
    }

    void dueAnswers(String where, int... answers) {
        due(where + ": state(11)", it.state(11), answers.length);
        for (int i = 0; i < answers.length; i++) {
            due(where + ": answers(" + i + ")", it.answers(i), answers[i]);
        }
    }

    void dueState(String where, int what, int want) {
        due(where + ": state(" + what + ")", it.state(what), want);
    }

    void dueTold(String where, int bad, int no, int full) {
        due(where + ": told(0)", it.told(0), bad);
        due(where + ": told(1)", it.told(1), no);
        due(where + ": told(2)", it.told(2), full);
    }
}
