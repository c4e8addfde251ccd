import java.util.IdentityHashMap;
import java.util.Map;

/**
 * "A call that throws changes nothing; where several exceptions that a call names fit, the one named first is
 * thrown." For each promise the arguments at the ends of what it allows and the first ones beyond them, all
 * with all; behind each refused call everything that can be asked, and what comes later, is as without it.
 */
public final class RefusedCallsTest extends Checks {
    private static final int LEAST = Integer.MIN_VALUE;
    private static final int GREATEST = Integer.MAX_VALUE;
    private static final int[] LABELS = {LEAST, -65536, -1, 0, 3, 4, 256, 65536, GREATEST};
    private static final int[] HANDFULS = {LEAST, -1024, -1, 0, 1, 1023, 1024, 1025, 65537, GREATEST};
    private static final int[] NUMBERS = {LEAST, -65536, -1, 0, 1, 2, 3, 4, 5, 6, 7, 256, 65536, GREATEST};

    private interface Act {
        void on(Machine x);
    }

    private interface Look {
        String at(Machine x);
    }

    private static final Act FRESH = x -> { };
    private static final Act BUSY = RefusedCallsTest::makeBusy;
    private static final Act FULL = RefusedCallsTest::makeFull;
    private static final Act NEARLY_TWELVE = RefusedCallsTest::makeNearlyTwelve;
    private static final int[] NEARLY = {12, 11, 10, 9, 0};
    private static final int[] NEARLY_BACK = {0, 9, 10, 11, 12};
    private static final int BUSY_MEMBRANES = 5;
    private static final int BUSY_RULES = 5;
    private static final int BUSY_DISSOLVES = 2;
    private static final int BUSY_DIVIDES = 3;
    private static final int BUSY_OUTCOMES = 2;

    private static final Look[] LOOKS = {
        Machine::state, RefusedCallsTest::places, RefusedCallsTest::uses, RefusedCallsTest::found,
        RefusedCallsTest::adopted, RefusedCallsTest::laterRounds, RefusedCallsTest::allWays,
        RefusedCallsTest::newNumbers, RefusedCallsTest::endings, RefusedCallsTest::roundsOfChanged,
    };
    private static final Map<Act, String[]> WITHOUT = new IdentityHashMap<>();

    public static void main(String[] args) {
        sentence("what is made for these tests is busy", RefusedCallsTest::setUps);
        sentence("clear: when label is not 0 .. 3", RefusedCallsTest::clear);
        sentence("membrane: no such parent; label; there are 6", RefusedCallsTest::membrane);
        sentence("put: no such membrane; handful is none", RefusedCallsTest::put);
        sentence("put: there would be more than 12 of a kind", RefusedCallsTest::putTooMuch);
        sentence("rule: label, handfuls, left is 0; there are 6", RefusedCallsTest::rule);
        sentence("into: no such rule; label; handful is none or 0", RefusedCallsTest::into);
        sentence("dissolve: no such rule; it dissolves or divides", RefusedCallsTest::dissolve);
        sentence("divide: no such rule; other; it dissolves or divides", RefusedCallsTest::divide);
        sentence("round: it is too much", RefusedCallsTest::round);
        sentence("uses: no such membrane or rule", RefusedCallsTest::usesNumbers);
        sentence("choices: no such membrane", RefusedCallsTest::choices);
        sentence("at: no such membrane; what is none of these", RefusedCallsTest::at);
        sentence("there: for any number", RefusedCallsTest::there);
        sentence("outside: no such kind", RefusedCallsTest::outside);
        sentence("outcomes: rounds is not 0 .. 3", RefusedCallsTest::outcomes);
        sentence("outcome: no such outcome, m; what is none of these", RefusedCallsTest::outcome);
        sentence("outcome and adopt: there are none at first, from clear on and at the limit", RefusedCallsTest::none);
        sentence("adopt: no such outcome", RefusedCallsTest::adopt);
        sentence("written: for any number", RefusedCallsTest::written);
        end();
    }

    /** Rules of every sort, all used in the rounds to come, two outcomes, and something changed behind them. */
    private static void makeBusy(Machine x) {
        x.clear(2);
        x.membrane(0, 1);
        x.membrane(1, 3);
        x.membrane(0, 1);
        x.rule(1, A, B, C);
        x.into(0, 3, D);
        x.rule(1, A, C, 0);
        x.rule(3, D, E, 0);
        x.dissolve(BUSY_DISSOLVES);
        x.rule(1, B, 0, D);
        x.divide(BUSY_DIVIDES, E);
        x.rule(2, C, 0, A + 2 * B);
        x.put(0, C);
        x.put(1, 2 * A);
        x.put(2, E);
        x.put(3, A + B);
        x.round();
        x.put(1, A);
        x.outcomes(1);
        x.put(4, A);
    }

    private static void makeFull(Machine x) {
        makeBusy(x);
        x.membrane(3, 2);
        x.rule(0, E, 0, 0);
    }

    /** A third membrane is empty. */
    private static void makeNearlyTwelve(Machine x) {
        x.membrane(0, 1);
        x.membrane(0, 2);
        for (int kind = 0; kind < 5; kind++) {
            x.putMany(0, 1 << (2 * kind), NEARLY[kind]);
            x.putMany(1, 1 << (2 * kind), NEARLY_BACK[kind]);
        }
        x.outcomes(0);
    }

    private static void setUps() {
        Machine x = made(BUSY);
        dueState("busy", x, "2(ccd1(abb3(dde))1(c)1(ace)) outside 1,2,0,0,0");
        due("busy: a number that is not there", 0, () -> x.there(BUSY_MEMBRANES) ? 1 : 0);
        due("busy: the last rule", 2, () -> x.uses(0, BUSY_RULES - 1));
        dueThrow("busy: no more rules", INDEX, () -> x.uses(0, BUSY_RULES));
        dueOutcome("busy", x, 0, "2:cd 1:bbbddee - 1:c 1:ce - 3,6,0,0,0");
        dueOutcome("busy", x, 1, "2:d 1:bbcdee - 1:c 1:ce - 3,6,0,0,0");
        dueThrow("busy: no more outcomes", INDEX, () -> x.outcome(BUSY_OUTCOMES, 0, 0));
        dueState("full", made(FULL), "2(ccd1(abb3(dde))1(c2())1(ace)) outside 1,2,0,0,0");
    }

    private static void clear() {
        for (Act setUp : new Act[] {FRESH, BUSY, FULL}) {
            for (int label : LABELS) {
                call("clear(" + label + ")", isLabel(label) ? null : ARGUMENT, setUp, x -> x.clear(label));
            }
        }
    }

    private static void membrane() {
        for (int parent : NUMBERS) {
            for (int label : LABELS) {
                String name = "membrane(" + parent + ", " + label + ")";
                Class<?> fine = isLabel(label) ? null : ARGUMENT;
                Class<?> noRoom = isLabel(label) ? STATE : ARGUMENT;
                call(name, parent == 0 ? fine : INDEX, FRESH, x -> x.membrane(parent, label));
                call(name, within(parent, BUSY_MEMBRANES) ? fine : INDEX, BUSY, x -> x.membrane(parent, label));
                call(name, within(parent, 6) ? noRoom : INDEX, FULL, x -> x.membrane(parent, label));
            }
        }
    }

    private static void put() {
        for (int m : NUMBERS) {
            for (int handful : HANDFULS) {
                Class<?> fine = isHandful(handful) ? null : ARGUMENT;
                String name = "put(" + m + ", " + handful + ")";
                call(name, m == 0 ? fine : INDEX, FRESH, x -> x.put(m, handful));
                call(name, within(m, BUSY_MEMBRANES) ? fine : INDEX, BUSY, x -> x.put(m, handful));
            }
        }
    }

    private static void putTooMuch() {
        for (int handful = 0; handful < 1024; handful++) {
            int given = handful;
            String name = "put(.., " + handful + ")";
            call(name, fits(handful, NEARLY) ? null : STATE, NEARLY_TWELVE, x -> x.put(0, given));
            call(name, fits(handful, NEARLY_BACK) ? null : STATE, NEARLY_TWELVE, x -> x.put(1, given));
            call(name, null, NEARLY_TWELVE, x -> x.put(2, given));
            call(name, INDEX, NEARLY_TWELVE, x -> x.put(3, given));
        }
        for (int handful : new int[] {-1, 1024, 1024 + A, 1024 + E}) {
            call("put(0, " + handful + ")", ARGUMENT, NEARLY_TWELVE, x -> x.put(0, handful));
            call("put(1, " + handful + ")", ARGUMENT, NEARLY_TWELVE, x -> x.put(1, handful));
        }
    }

    private static boolean fits(int handful, int[] there) {
        boolean fine = true;
        for (int kind = 0; kind < 5; kind++) {
            fine = fine && there[kind] + (handful >> (2 * kind) & 3) <= 12;
        }
        return fine;
    }

    private static void rule() {
        int[] handfuls = {-1, 0, 1, 1023, 1024};
        for (int label : new int[] {-1, 0, 3, 4}) {
            for (int left : handfuls) {
                for (int here : handfuls) {
                    for (int out : handfuls) {
                        ruleWith(label, left, here, out);
                    }
                }
            }
        }
        for (int label : LABELS) {
            ruleWith(label, 1, 1, 1);
        }
        for (int handful : HANDFULS) {
            ruleWith(0, handful, 1, 1);
            ruleWith(0, 1, handful, 1);
            ruleWith(0, 1, 1, handful);
        }
    }

    private static void ruleWith(int label, int left, int here, int out) {
        boolean fine = isLabel(label) && isHandful(left) && left != 0 && isHandful(here) && isHandful(out);
        String name = "rule(" + label + ", " + left + ", " + here + ", " + out + ")";
        call(name, fine ? null : ARGUMENT, BUSY, x -> x.rule(label, left, here, out));
        call(name, fine ? STATE : ARGUMENT, FULL, x -> x.rule(label, left, here, out));
    }

    private static void into() {
        for (int rule : NUMBERS) {
            for (int label : LABELS) {
                for (int handful : HANDFULS) {
                    String name = "into(" + rule + ", " + label + ", " + handful + ")";
                    Class<?> fine = isLabel(label) && isHandful(handful) && handful != 0 ? null : ARGUMENT;
                    call(name, within(rule, BUSY_RULES) ? fine : INDEX, BUSY, x -> x.into(rule, label, handful));
                }
            }
            call("into(" + rule + ", 0, 1)", INDEX, FRESH, x -> x.into(rule, 0, 1));
            call("into(" + rule + ", 0, 1)", within(rule, 6) ? null : INDEX, FULL, x -> x.into(rule, 0, 1));
        }
    }

    private static void dissolve() {
        for (int rule : NUMBERS) {
            Class<?> fine = rule == BUSY_DISSOLVES || rule == BUSY_DIVIDES ? STATE : null;
            String name = "dissolve(" + rule + ")";
            call(name, INDEX, FRESH, x -> x.dissolve(rule));
            call(name, within(rule, BUSY_RULES) ? fine : INDEX, BUSY, x -> x.dissolve(rule));
            call(name, within(rule, 6) ? fine : INDEX, FULL, x -> x.dissolve(rule));
        }
    }

    private static void divide() {
        for (int rule : NUMBERS) {
            for (int other : HANDFULS) {
                Class<?> fine = rule == BUSY_DISSOLVES || rule == BUSY_DIVIDES ? STATE : null;
                Class<?> known = isHandful(other) ? fine : ARGUMENT;
                String name = "divide(" + rule + ", " + other + ")";
                call(name, INDEX, FRESH, x -> x.divide(rule, other));
                call(name, within(rule, BUSY_RULES) ? known : INDEX, BUSY, x -> x.divide(rule, other));
                call(name, within(rule, 6) ? known : INDEX, FULL, x -> x.divide(rule, other));
            }
        }
    }

    private static void round() {
        call("round, nothing is used", null, FRESH, Machine::round);
        call("round, all is fine", null, BUSY, Machine::round);
        call("round, 12 in the skin", null, RefusedCallsTest::makeTwelve, Machine::round);
        call("round, 13 in the skin", STATE, RefusedCallsTest::makeThirteen, Machine::round);
        call("round, 999 outside", null, RefusedCallsTest::makeNineHundred, Machine::round);
        call("round, 1000 outside", STATE, RefusedCallsTest::makeThousand, Machine::round);
        call("round, one number for two new ones", STATE, RefusedCallsTest::makeTwoDivide, Machine::round);
        call("round, no number", STATE, x -> {
            makeFull(x);
            x.put(4, B);
        }, Machine::round);
    }

    private static void makeTwelve(Machine x) {
        makeBusy(x);
        x.putMany(0, D, 11);
        x.rule(2, A, 0, 0);
    }

    private static void makeThirteen(Machine x) {
        makeTwelve(x);
        x.put(4, B);
    }

    /** 972 are outside, and the next round makes 27 more. */
    private static void makeNineHundred(Machine x) {
        x.membrane(0, 1);
        x.rule(0, A, A, 3 * C);
        x.rule(0, B, 0, C);
        x.rule(0, B, D, C);
        x.rule(1, A, E, 0);
        x.putMany(0, A, 9);
        for (int i = 0; i < 36; i++) {
            x.round();
        }
        x.put(1, 2 * A);
        x.outcomes(2);
    }

    private static void makeThousand(Machine x) {
        makeNineHundred(x);
        x.put(0, B);
    }

    private static void makeTwoDivide(Machine x) {
        makeBusy(x);
        x.put(3, B);
        x.put(4, B);
    }

    private static void usesNumbers() {
        for (int m : NUMBERS) {
            for (int rule : NUMBERS) {
                String name = "uses(" + m + ", " + rule + ")";
                asks(name, INDEX, FRESH, x -> x.uses(m, rule));
                boolean fine = within(m, BUSY_MEMBRANES) && within(rule, BUSY_RULES);
                asks(name, fine ? null : INDEX, BUSY, x -> x.uses(m, rule));
                asks(name, within(m, 6) && within(rule, 6) ? null : INDEX, FULL, x -> x.uses(m, rule));
            }
        }
    }

    private static void choices() {
        for (int m : NUMBERS) {
            String name = "choices(" + m + ")";
            asks(name, m == 0 ? null : INDEX, FRESH, x -> x.choices(m));
            asks(name, within(m, BUSY_MEMBRANES) ? null : INDEX, BUSY, x -> x.choices(m));
            asks(name, within(m, 6) ? null : INDEX, FULL, x -> x.choices(m));
        }
    }

    private static void at() {
        for (int m : NUMBERS) {
            for (int what : new int[] {LEAST, -1, 0, 1, 2, 3, 4, 5, 6, 7, 8, 256, 65536, GREATEST}) {
                String name = "at(" + m + ", " + what + ")";
                Class<?> fine = within(what, 8) ? null : ARGUMENT;
                asks(name, m == 0 ? fine : INDEX, FRESH, x -> x.at(m, what));
                asks(name, within(m, BUSY_MEMBRANES) ? fine : INDEX, BUSY, x -> x.at(m, what));
                asks(name, within(m, 6) ? fine : INDEX, FULL, x -> x.at(m, what));
            }
        }
    }

    private static void there() {
        for (int m : NUMBERS) {
            String name = "there(" + m + ")";
            asks(name, null, BUSY, x -> x.there(m));
            due(name + " of a new one", m == 0 ? 1 : 0, () -> made(FRESH).there(m) ? 1 : 0);
            due(name + " of five", within(m, BUSY_MEMBRANES) ? 1 : 0, () -> made(BUSY).there(m) ? 1 : 0);
            due(name + " of six", within(m, 6) ? 1 : 0, () -> made(FULL).there(m) ? 1 : 0);
        }
    }

    private static void outside() {
        for (int kind : NUMBERS) {
            Class<?> fine = within(kind, 5) ? null : INDEX;
            asks("outside(" + kind + ")", fine, FRESH, x -> x.outside(kind));
            asks("outside(" + kind + ")", fine, BUSY, x -> x.outside(kind));
        }
    }

    private static void outcomes() {
        for (int rounds : NUMBERS) {
            Class<?> fine = within(rounds, 4) ? null : ARGUMENT;
            call("outcomes(" + rounds + ")", fine, FRESH, x -> x.outcomes(rounds));
            call("outcomes(" + rounds + ")", fine, BUSY, x -> x.outcomes(rounds));
            if (fine == null) {
                Act again = x -> {
                    x.outcomes(rounds);
                    x.outcomes(1);
                };
                Act once = x -> x.outcomes(1);
                sameAs("outcomes(" + rounds + ")", BUSY, once, again);
            }
        }
    }

    private static void outcome() {
        int[] whats = {LEAST, -1, 0, 1, 2, 3, 4, 5, 6, 7, 8, 9, 10, 11, 65536, GREATEST};
        for (int i : new int[] {LEAST, -1, 0, 1, 2, 3, 40, 65536, GREATEST}) {
            for (int m : new int[] {LEAST, -1, 0, 5, 6, 7, 65536, GREATEST}) {
                for (int what : whats) {
                    Class<?> known = within(what, 11) ? null : ARGUMENT;
                    boolean fine = within(i, BUSY_OUTCOMES) && within(m, 6);
                    String name = "outcome(" + i + ", " + m + ", " + what + ")";
                    asks(name, fine ? known : INDEX, BUSY, x -> x.outcome(i, m, what));
                    asks(name, INDEX, FRESH, x -> x.outcome(i, m, what));
                }
            }
        }
    }

    private static void none() {
        Act cleared = x -> {
            makeBusy(x);
            x.clear(2);
        };
        Act atTheLimit = x -> {
            x.outcomes(1);
            for (int i = 0; i < 3; i++) {
                x.rule(0, A, i == 0 ? 0 : 4 << (2 * i), 0);
            }
            x.putMany(0, A, 12);
            due("91 are too many", LIMIT, () -> x.outcomes(1));
        };
        for (Act setUp : new Act[] {FRESH, cleared, atTheLimit}) {
            for (int i : new int[] {-1, 0, 1}) {
                asks("outcome(" + i + ", 0, 0) of none", INDEX, setUp, x -> x.outcome(i, 0, 0));
                asks("outcome(" + i + ", 6, 11) of none", INDEX, setUp, x -> x.outcome(i, 6, 11));
                call("adopt(" + i + ") of none", INDEX, setUp, x -> x.adopt(i));
            }
        }
    }

    private static void adopt() {
        for (int i : NUMBERS) {
            String name = "adopt(" + i + ")";
            call(name, INDEX, FRESH, x -> x.adopt(i));
            call(name, within(i, BUSY_OUTCOMES) ? null : INDEX, BUSY, x -> x.adopt(i));
        }
    }

    private static void written() {
        for (int i : new int[] {LEAST, -65536, -1, 0, 1, 28, 29, 30, 65536, GREATEST}) {
            asks("written(" + i + ")", null, BUSY, x -> x.written(i));
        }
    }

    private static boolean within(int number, int count) {
        return number >= 0 && number < count;
    }

    private static boolean isLabel(int label) {
        return within(label, 4);
    }

    private static boolean isHandful(int handful) {
        return within(handful, 1024);
    }

    private static Machine made(Act setUp) {
        Machine x = new Machine();
        setUp.on(x);
        return x;
    }

    /** A call that is refused with an exception, then changes nothing; or with none, then is not refused. */
    private static void call(String name, Class<?> want, Act setUp, Act act) {
        Machine x = made(setUp);
        compare(name, told(want), told(thrownBy(() -> act.on(x))));
        if (want != null) {
            changesNothing(name, setUp, act);
        }
    }

    /** A call that changes nothing, refused or not. */
    private static void asks(String name, Class<?> want, Act setUp, Act act) {
        call(name, want, setUp, act);
        if (want == null) {
            changesNothing(name, setUp, act);
        }
    }

    private static void changesNothing(String name, Act setUp, Act act) {
        String[] without = WITHOUT.computeIfAbsent(setUp, RefusedCallsTest::looks);
        String[] with = looks(x -> {
            setUp.on(x);
            thrownBy(() -> act.on(x));
        });
        for (int i = 0; i < LOOKS.length; i++) {
            compare(name + " changes nothing", without[i], with[i]);
        }
    }

    private static void sameAs(String name, Act setUp, Act one, Act another) {
        String[] first = looks(x -> {
            setUp.on(x);
            one.on(x);
        });
        String[] second = looks(x -> {
            setUp.on(x);
            another.on(x);
        });
        for (int i = 0; i < LOOKS.length; i++) {
            compare(name + " changes nothing but the outcomes", first[i], second[i]);
        }
    }

    /** Each look has an object of its own, since it may change it, and since 512 calls are not enough for all. */
    private static String[] looks(Act setUp) {
        String[] seen = new String[LOOKS.length];
        for (int i = 0; i < seen.length; i++) {
            seen[i] = LOOKS[i].at(made(setUp));
        }
        return seen;
    }

    private static String answer(Call call) {
        try {
            return " " + call.answer();
        } catch (RuntimeException e) {
            return " " + e.getClass().getSimpleName();
        }
    }

    private static String places(Machine x) {
        StringBuilder text = new StringBuilder(x.numbers());
        for (int m = 0; m < 6; m++) {
            for (int what = 0; what < 8; what++) {
                int number = m;
                int asked = what;
                text.append(answer(() -> x.at(number, asked)));
            }
        }
        return text.toString();
    }

    private static String uses(Machine x) {
        StringBuilder text = new StringBuilder();
        for (int m = 0; m < 6; m++) {
            int number = m;
            text.append(answer(() -> x.choices(number)));
            for (int r = 0; r < 6; r++) {
                int rule = r;
                text.append(answer(() -> x.uses(number, rule)));
            }
        }
        return text.toString();
    }

    private static String found(Machine x) {
        StringBuilder text = new StringBuilder();
        for (int i = 0; x.callsLeft() > 50; i++) {
            int number = i;
            if (thrownBy(() -> x.outcome(number, 0, 0)) != null) {
                return text.append("and no more").toString();
            }
            text.append(x.listed(i)).append('\n');
        }
        return text.toString();
    }

    private static String adopted(Machine x) {
        StringBuilder text = new StringBuilder();
        for (int i = 0; i < BUSY_OUTCOMES; i++) {
            int number = i;
            text.append(told(thrownBy(() -> x.adopt(number)))).append(' ').append(x.state()).append('\n');
        }
        return text.toString();
    }

    private static String laterRounds(Machine x) {
        StringBuilder text = new StringBuilder();
        for (int i = 0; i < 3; i++) {
            text.append(answer(x::round)).append(' ').append(x.state()).append(' ').append(x.numbers()).append('\n');
        }
        return text.toString();
    }

    private static String allWays(Machine x) {
        return answer(() -> x.outcomes(1)) + answer(() -> x.outcomes(3)) + answer(() -> x.outcomes(2)) + found(x);
    }

    private static String newNumbers(Machine x) {
        return answer(() -> x.rule(2, D, 0, 0)) + answer(() -> x.membrane(0, 2)) + answer(() -> x.membrane(1, 2))
                + answer(x::round) + " " + x.state();
    }

    /** Which rules dissolve or divide. */
    private static String endings(Machine x) {
        StringBuilder text = new StringBuilder();
        for (int r = 0; r < 6; r++) {
            int rule = r;
            text.append(told(thrownBy(() -> x.dissolve(rule)))).append(' ');
        }
        return text + x.state();
    }

    /** The rules with something to use each of them, so that what they make is seen. */
    private static String roundsOfChanged(Machine x) {
        for (int m = 0; m < 6; m++) {
            int number = m;
            thrownBy(() -> x.put(number, A + B + D));
        }
        return laterRounds(x);
    }
}
