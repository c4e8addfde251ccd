/**
 * The class with its calls counted, since nothing is promised of an object behind its 512th call, and with
 * texts of what can be asked.
 */
final class Machine {
    private static final int MOST_CALLS = 512;

    private final MembraneRounds inside = new MembraneRounds();
    private int calls;

    private MembraneRounds next() {
        calls++;
        if (calls > MOST_CALLS) {
            throw new AssertionError("a test goes beyond the 512 calls that are promised");
        }
        return inside;
    }

    int callsLeft() {
        return MOST_CALLS - calls;
    }

    void clear(int label) {
        next().clear(label);
    }

    int membrane(int parent, int label) {
        return next().membrane(parent, label);
    }

    void put(int membrane, int handful) {
        next().put(membrane, handful);
    }

    /** More of one kind than a handful holds. */
    void putMany(int membrane, int one, int count) {
        for (int rest = count; rest > 0; rest -= 3) {
            put(membrane, one * Math.min(3, rest));
        }
    }

    /** Twelve objects of each kind. */
    void fill(int membrane) {
        for (int i = 0; i < 4; i++) {
            put(membrane, 1023);
        }
    }

    int rule(int label, int left, int here, int out) {
        return next().rule(label, left, here, out);
    }

    void into(int rule, int label, int handful) {
        next().into(rule, label, handful);
    }

    void dissolve(int rule) {
        next().dissolve(rule);
    }

    void divide(int rule, int other) {
        next().divide(rule, other);
    }

    int round() {
        return next().round();
    }

    int uses(int membrane, int rule) {
        return next().uses(membrane, rule);
    }

    int choices(int membrane) {
        return next().choices(membrane);
    }

    int at(int membrane, int what) {
        return next().at(membrane, what);
    }

    boolean there(int membrane) {
        return next().there(membrane);
    }

    int outside(int kind) {
        return next().outside(kind);
    }

    int outcomes(int rounds) {
        return next().outcomes(rounds);
    }

    int outcome(int i, int m, int what) {
        return next().outcome(i, m, what);
    }

    void adopt(int i) {
        next().adopt(i);
    }

    int written(int i) {
        return next().written(i);
    }

    /** The numbers that are there, from 0, each as a digit. */
    String numbers() {
        StringBuilder text = new StringBuilder();
        for (int m = 0; m < 6; m++) {
            text.append(there(m) ? "" + m : "");
        }
        return text.toString();
    }

    String writing() {
        StringBuilder text = new StringBuilder();
        int letter = written(0);
        while (letter != MembraneRounds.NONE) {
            text.append((char) letter);
            letter = written(text.length());
        }
        return text.toString();
    }

    /** The writing, and what is outside of each kind. */
    String state() {
        StringBuilder text = new StringBuilder(writing()).append(" outside ");
        for (int kind = 0; kind < 5; kind++) {
            text.append(kind == 0 ? "" : ",").append(outside(kind));
        }
        return text.toString();
    }

    /** An outcome as "label:objects" for each number, "-" where there is no membrane, and what is outside. */
    String listed(int i) {
        StringBuilder text = new StringBuilder();
        for (int m = 0; m < 6; m++) {
            int label = outcome(i, m, 5);
            text.append(label == MembraneRounds.NONE ? "-" : label + ":");
            for (int kind = 0; kind < 5 && label != MembraneRounds.NONE; kind++) {
                text.append(("" + (char) ('a' + kind)).repeat(outcome(i, m, kind)));
            }
            text.append(' ');
        }
        for (int kind = 0; kind < 5; kind++) {
            text.append(kind == 0 ? "" : ",").append(outcome(i, 0, 6 + kind));
        }
        return text.toString();
    }
}
