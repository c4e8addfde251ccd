/**
 * The sentences on outcomes, on the room for 40 of them and the 1000 choices, and on what is asked and made of
 * them: each at its boundary and on either side of it.
 */
public final class OutcomesBoundariesTest extends Checks {
    private static final String NOTHING = " outside 0,0,0,0,0";

    public static void main(String[] args) {
        sentence("LIMIT = -2, NONE = -1", OutcomesBoundariesTest::constants);
        sentence("of no rounds, this one", OutcomesBoundariesTest::ofNoRounds);
        sentence("of one more, for each of those before, in their order", OutcomesBoundariesTest::inTheirOrder);
        sentence("each that was not found yet comes behind", OutcomesBoundariesTest::notFoundYet);
        sentence("not found yet: the label, parent, number or place of something is another", OutcomesBoundariesTest::others);
        sentence("what was there some rounds before may come again", OutcomesBoundariesTest::comesAgain);
        sentence("but for what is too much", OutcomesBoundariesTest::tooMuch);
        sentence("a halted one stays as it is", OutcomesBoundariesTest::haltedStays);
        sentence("there is room for 40: when there would be more, the limit is met", OutcomesBoundariesTest::forty);
        sentence("room for 40 of each number of rounds", OutcomesBoundariesTest::fortyOfEach);
        sentence("what was found yet needs no room", OutcomesBoundariesTest::fortyFoundAgain);
        sentence("more than 1000 choices in one membrane: the limit is met", OutcomesBoundariesTest::thousand);
        sentence("more than 1000 choices in all membranes", OutcomesBoundariesTest::thousandTogether);
        sentence("or one of those before has more than 1000 choices", OutcomesBoundariesTest::thousandOfOneBefore);
        sentence("more than 1000 choices, all too much", OutcomesBoundariesTest::thousandTooMuch);
        sentence("LIMIT when that is met for that number of rounds", OutcomesBoundariesTest::thatNumber);
        sentence("LIMIT when that is met for a lesser number", OutcomesBoundariesTest::lesserNumber);
        sentence("at the limit there are none", OutcomesBoundariesTest::noneAtTheLimit);
        sentence("outcome: objects, label, outside; the ends of what it answers", OutcomesBoundariesTest::asked);
        sentence("outcome: NONE when there is no such membrane in it", OutcomesBoundariesTest::noSuchMembrane);
        sentence("of those found last", OutcomesBoundariesTest::foundLast);
        sentence("adopt: the configuration becomes outcome i", OutcomesBoundariesTest::adopted);
        sentence("adopt: the last of 40", OutcomesBoundariesTest::lastOfForty);
        sentence("the same calls give the same answers, up to the 512th", OutcomesBoundariesTest::againAndAgain);
        end();
    }

    private static void dueOutcomes(String name, Machine x, int... want) {
        for (int i = 0; i < want.length; i++) {
            int rounds = i;
            due(name + ", of " + rounds + " rounds", want[i], () -> x.outcomes(rounds));
        }
    }

    private static void dueSkins(String name, Machine x, String... want) {
        for (int i = 0; i < want.length; i++) {
            dueOutcome(name, x, i, "0:" + want[i] + " - - - - - 0,0,0,0,0");
        }
        dueThrow(name + ", and no more", INDEX, () -> x.outcome(want.length, 0, 0));
    }

    private static void constants() {
        due("LIMIT", -2, () -> MembraneRounds.LIMIT);
        due("NONE", -1, () -> MembraneRounds.NONE);
    }

    private static void ofNoRounds() {
        Machine x = new Machine();
        due("a new one", 1, () -> x.outcomes(0));
        dueSkins("a new one", x, "");
        x.put(0, A);
        x.rule(0, A, B, 0);
        due("not halted", 1, () -> x.outcomes(0));
        dueSkins("before a round", x, "a");
        for (int i = 0; i < 5; i++) {
            x.rule(0, A, B, 0);
        }
        x.putMany(0, A, 11);
        x.putMany(0, B, 12);
        due("far too many choices, all too much", 1, () -> x.outcomes(0));
        dueSkins("that one", x, "aaaaaaaaaaaabbbbbbbbbbbb");
        due("they are", LIMIT, () -> x.outcomes(1));
    }

    private static void inTheirOrder() {
        Machine x = new Machine();
        x.rule(0, A, C, 0);
        x.rule(0, A, B, 0);
        x.rule(0, B, D, 0);
        x.rule(0, B, E, 0);
        x.rule(0, C, 2 * E, 0);
        x.rule(0, C, 2 * D, 0);
        x.put(0, A);
        due("two", 2, () -> x.outcomes(1));
        dueSkins("of one round", x, "c", "b");
        due("four", 4, () -> x.outcomes(2));
        dueSkins("of two rounds", x, "ee", "dd", "d", "e");
        due("four that halt", 4, () -> x.outcomes(3));
        dueSkins("of three rounds", x, "ee", "dd", "d", "e");
    }

    private static void notFoundYet() {
        Machine x = new Machine();
        x.rule(0, A, B, 0);
        x.rule(0, A, C, 0);
        x.rule(0, B, D, 0);
        x.rule(0, B, E, 0);
        x.rule(0, C, E, 0);
        x.rule(0, C, B, 0);
        x.put(0, A);
        due("two", 2, () -> x.outcomes(1));
        dueSkins("of one round", x, "b", "c");
        due("three of four", 3, () -> x.outcomes(2));
        dueSkins("of two rounds, e once", x, "d", "e", "b");
        due("two of three", 2, () -> x.outcomes(3));
        dueSkins("of three rounds", x, "d", "e");
    }

    private static void others() {
        Machine x = new Machine();
        x.rule(0, A, 0, B);
        x.rule(0, A, 0, 0);
        x.rule(0, A, B, 0);
        x.put(0, A);
        due("outside, nowhere, inside", 3, () -> x.outcomes(1));

        Machine y = new Machine();
        for (int label = 1; label <= 2; label++) {
            y.rule(label, A, 0, 0);
            y.divide(2 * label - 2, 0);
            y.rule(label, A, 0, 0);
            y.membrane(0, label);
            y.put(label, A);
        }
        due("new ones with labels 1 and 2, 1, 2, and no new one", 4, () -> y.outcomes(1));
        dueOutcome("both", y, 0, "0: 1: 2: 1: 2: - 0,0,0,0,0");
        dueOutcome("with label 1", y, 1, "0: 1: 2: 1: - - 0,0,0,0,0");
        dueOutcome("with label 2", y, 2, "0: 1: 2: 2: - - 0,0,0,0,0");
        dueOutcome("none", y, 3, "0: 1: 2: - - - 0,0,0,0,0");

        Machine z = new Machine();
        z.membrane(0, 1);
        z.membrane(0, 1);
        z.membrane(1, 3);
        z.membrane(2, 3);
        z.rule(3, A, 0, 0);
        z.divide(0, 0);
        z.rule(3, A, 0, 0);
        z.put(3, A);
        z.put(4, A);
        due("a new one in 1, in 2, and no new one; for two there is no number", 3, () -> z.outcomes(1));
        z.adopt(0);
        due("in 1", 1, () -> z.at(5, 6));
        z.adopt(1);
        due("in 2", 2, () -> z.at(5, 6));

        Machine w = new Machine();
        w.membrane(0, 1);
        w.membrane(0, 1);
        w.rule(1, A, B, 0);
        w.rule(1, A, C, 0);
        w.put(1, A);
        w.put(2, A);
        due("b in 1 and c in 2 is not c in 1 and b in 2", 4, () -> w.outcomes(1));
    }

    private static void comesAgain() {
        Machine x = new Machine();
        x.rule(0, A, B, 0);
        x.rule(0, B, A, 0);
        x.put(0, A);
        dueOutcomes("to and fro", x, 1, 1, 1);
        dueSkins("of two rounds", x, "a");
        due("of three", 1, () -> x.outcomes(3));
        dueSkins("of three rounds", x, "b");
    }

    private static void tooMuch() {
        Machine x = new Machine();
        x.rule(0, A, 2 * B, 0);
        x.rule(0, A, C, 0);
        x.rule(0, A, 3 * B, 0);
        x.put(0, A);
        x.putMany(0, B, 10);
        due("12, 10, and 13 that is too much", 2, () -> x.outcomes(1));
        dueSkins("without it", x, "bbbbbbbbbbbb", "bbbbbbbbbbc");
        x.put(0, B);
        due("13, 11, 14", 1, () -> x.outcomes(1));
        dueSkins("the one in the midst", x, "bbbbbbbbbbbc");
        dueThrow("the machine's own is too much", STATE, x::round);
        x.put(0, A);
        due("with two only both c", 1, () -> x.outcomes(1));
        x.rule(0, B, 2 * B, 0);
        dueOutcomes("all are too much", x, 1, 0, 0, 0);
        dueThrow("none", INDEX, () -> x.outcome(0, 0, 0));
        dueThrow("none to adopt", INDEX, () -> x.adopt(0));
        dueState("nothing changes", x, "0(aabbbbbbbbbbb)" + NOTHING);
        Machine y = new Machine();
        y.rule(0, A, 3 * A, 0);
        y.put(0, 2 * A);
        dueOutcomes("2, 6, then 18 are too much", y, 1, 1, 0, 0);
    }

    private static void haltedStays() {
        Machine x = new Machine();
        x.rule(0, A, D, 0);
        x.rule(0, A, B, 0);
        x.rule(0, A, C, 0);
        x.rule(0, B, 2 * D, 0);
        x.rule(0, D + E, A, 0);
        x.put(0, A);
        due("three", 3, () -> x.outcomes(1));
        dueSkins("of one round", x, "d", "b", "c");
        due("three", 3, () -> x.outcomes(2));
        dueSkins("d and c stay, b goes on", x, "d", "dd", "c");
        due("three", 3, () -> x.outcomes(3));
        dueSkins("all stay", x, "d", "dd", "c");
    }

    /** In the skin 8 a, each for d, b or c, so that 45 ways come to different ends, but for what is too much. */
    private static Machine eight(int d, int b, int c) {
        Machine x = new Machine();
        x.membrane(0, 1);
        x.membrane(1, 2);
        x.rule(0, A, D, 0);
        x.rule(0, A, B, 0);
        x.rule(0, A, C, 0);
        x.putMany(0, D, d);
        x.putMany(0, B, b);
        x.putMany(0, C, c);
        return x;
    }

    /** The 8 a come at once, or behind one or two rounds. */
    private static Machine eightBehind(int rounds, int d, int b, int c) {
        Machine x = eight(d, b, c);
        x.rule(1, E, 0, 2 * A);
        x.rule(2, E, 0, E);
        if (rounds == 0) {
            x.putMany(0, A, 8);
        } else {
            x.putMany(rounds, E, 4);
        }
        return x;
    }

    private static void forty() {
        Machine x = eightBehind(0, 0, 0, 0);
        due("45 choices", 45, () -> x.choices(0));
        dueOutcomes("45", x, 1, LIMIT, LIMIT, LIMIT);
        dueOutcomes("39", eightBehind(0, 0, 6, 6), 1, 39, 39, 39);
        dueOutcomes("40", eightBehind(0, 5, 5, 6), 1, 40, 40, 40);
        dueOutcomes("41", eightBehind(0, 0, 5, 6), 1, LIMIT, LIMIT, LIMIT);
        Machine last = eightBehind(0, 5, 5, 6);
        due("40", 40, () -> last.outcomes(1));
        dueOutcome("the first", last, 0, "0:bbbbbbccccccdddddddddddd 1: 2: - - - 0,0,0,0,0");
        dueOutcome("the last", last, 39, "0:bbbbbbbccccccccccccddddd 1: 2: - - - 0,0,0,0,0");
        dueThrow("no more", INDEX, () -> last.outcome(40, 0, 0));
    }

    private static void fortyOfEach() {
        dueOutcomes("39 in the second", eightBehind(1, 0, 6, 6), 1, 1, 39, 39);
        dueOutcomes("40 in the second", eightBehind(1, 5, 5, 6), 1, 1, 40, 40);
        dueOutcomes("39 in the third", eightBehind(2, 0, 6, 6), 1, 1, 1, 39);
        dueOutcomes("40 in the third", eightBehind(2, 5, 5, 6), 1, 1, 1, 40);
        Machine x = eight(5, 5, 6);
        x.putMany(0, A, 8);
        x.rule(1, E, B, 0);
        x.rule(1, B, D, 0);
        x.rule(1, D, C, 0);
        x.put(1, E);
        dueOutcomes("40 others in each", x, 1, 40, 40, 40);
        dueOutcome("the last", x, 39, "0:bbbbbbbccccccccccccddddd 1:c 2: - - - 0,0,0,0,0");
        due("of two", 40, () -> x.outcomes(2));
        dueOutcome("the last", x, 39, "0:bbbbbbbccccccccccccddddd 1:d 2: - - - 0,0,0,0,0");
        due("of one", 40, () -> x.outcomes(1));
        dueOutcome("the last", x, 39, "0:bbbbbbbccccccccccccddddd 1:b 2: - - - 0,0,0,0,0");
    }

    private static void fortyFoundAgain() {
        Machine x = eight(5, 5, 6);
        x.putMany(0, A, 8);
        x.rule(0, A, C, 0);
        due("165 choices", 165, () -> x.choices(0));
        dueOutcomes("40 of them", x, 1, 40, 40, 40);
        Machine y = new Machine();
        y.rule(0, A, B, 0);
        y.rule(0, A, B, 0);
        y.rule(0, A, C, 0);
        y.putMany(0, A, 12);
        due("91 choices", 91, () -> y.choices(0));
        dueOutcomes("13 of them", y, 1, 13, 13, 13);
    }

    private static void thousand() {
        Machine less = with999Choices();
        due("999", 999, () -> less.choices(0));
        due("999 are no limit; from none to 10 c are left", 11, () -> less.outcomes(1));
        Machine just = new Machine();
        for (int one : new int[] {A, B, C}) {
            just.rule(0, one, D, 0);
            just.rule(0, one, 0, 0);
        }
        for (int one : new int[] {A, B, C}) {
            just.putMany(0, one, 9);
        }
        due("1000 are no limit; d from none to 12", 13, () -> just.outcomes(1));
        Machine more = new Machine();
        for (int i = 0; i < 5; i++) {
            more.rule(0, A, B, 0);
        }
        more.putMany(0, A, 9);
        due("715 are no limit", 1, () -> more.outcomes(1));
        more.put(0, A);
        due("1001 are", LIMIT, () -> more.outcomes(1));
        due("1001 are not for no rounds", 1, () -> more.outcomes(0));
    }

    /** Three membranes, with two rules that come to the same for each a. */
    private static Machine three(int one, int two, int three) {
        Machine x = new Machine();
        x.rule(1, A, 0, 0);
        x.rule(1, A, 0, 0);
        int[] counts = {one, two, three};
        for (int m = 1; m <= 3; m++) {
            x.membrane(0, 1);
            x.putMany(m, A, counts[m - 1]);
        }
        return x;
    }

    private static void thousandTogether() {
        dueOutcomes("9 * 10 * 11", three(8, 9, 10), 1, 1, 1, 1);
        dueOutcomes("10 * 10 * 10", three(9, 9, 9), 1, 1, 1, 1);
        dueOutcomes("7 * 11 * 13", three(6, 10, 12), 1, LIMIT, LIMIT, LIMIT);
        dueOutcomes("13 * 11 * 7", three(12, 10, 6), 1, LIMIT, LIMIT, LIMIT);
        dueOutcomes("13 * 13 * 13", three(12, 12, 12), 1, LIMIT, LIMIT, LIMIT);
        Machine x = three(9, 9, 9);
        x.membrane(0, 1);
        x.membrane(0, 1);
        dueOutcomes("10 * 10 * 10 * 1 * 1", x, 1, 1, 1, 1);
        x.put(5, A);
        dueOutcomes("10 * 10 * 10 * 1 * 2", x, 1, LIMIT, LIMIT, LIMIT);
        Machine y = three(9, 9, 9);
        y.rule(0, A, 0, 0);
        y.rule(0, A, B, 0);
        dueOutcomes("1 * 10 * 10 * 10", y, 1, 1, 1, 1);
        y.put(0, A);
        dueOutcomes("2 * 10 * 10 * 10", y, 1, LIMIT, LIMIT, LIMIT);
    }

    /** Of two outcomes of one round, the one that comes second (or first) has an a more in membrane 1. */
    private static Machine twoBefore(boolean second, int one, int two, int three) {
        Machine x = new Machine();
        x.rule(1, A, 0, 0);
        x.rule(1, A, 0, 0);
        x.rule(1, B, A, 0);
        x.rule(0, E, 0, 0);
        x.rule(0, E, 0, 0);
        x.into(second ? 4 : 3, 1, A);
        int[] counts = {one, two, three};
        for (int m = 1; m <= 3; m++) {
            x.membrane(0, 1);
            x.putMany(m, B, counts[m - 1]);
        }
        x.put(0, E);
        return x;
    }

    private static void thousandOfOneBefore() {
        dueOutcomes("900 and 1000", twoBefore(true, 8, 9, 9), 1, 2, 1, 1);
        dueOutcomes("1000 and 900", twoBefore(false, 8, 9, 9), 1, 2, 1, 1);
        dueOutcomes("924 and 8 * 11 * 12", twoBefore(true, 6, 10, 11), 1, 2, LIMIT, LIMIT);
        dueOutcomes("8 * 11 * 12 and 924", twoBefore(false, 6, 10, 11), 1, 2, LIMIT, LIMIT);
        dueOutcomes("6 * 11 * 13 and 1001", twoBefore(true, 5, 10, 12), 1, 2, LIMIT, LIMIT);
        dueOutcomes("1001 and 6 * 11 * 13", twoBefore(false, 5, 10, 12), 1, 2, LIMIT, LIMIT);
    }

    private static void thousandTooMuch() {
        for (int more = 0; more <= 1; more++) {
            Machine x = three(9, 9, 9 + more);
            x.rule(0, A, B, 0);
            x.put(0, A);
            x.putMany(0, B, 12);
            int due = more == 0 ? 0 : LIMIT;
            due(more == 0 ? "1000, none is fine" : "1100, none is fine", due, () -> x.outcomes(1));
        }
    }

    private static void thatNumber() {
        dueOutcomes("41 in the second", eightBehind(1, 0, 5, 6), 1, 1, LIMIT, LIMIT);
        dueOutcomes("41 in the third", eightBehind(2, 0, 5, 6), 1, 1, 1, LIMIT);
        for (int more = 0; more <= 1; more++) {
            Machine x = three(0, 0, 0);
            x.rule(1, B, A, 0);
            x.rule(1, C, B, 0);
            for (int m = 1; m <= 3; m++) {
                x.putMany(m, C, m == 3 ? 9 + more : 9);
            }
            dueOutcomes("choices of the third", x, 1, 1, 1, more == 0 ? 1 : LIMIT);
        }
    }

    private static void lesserNumber() {
        for (int count = 7; count <= 8; count++) {
            Machine x = new Machine();
            for (int made : new int[] {B, C, D}) {
                x.rule(0, A, made, 0);
                x.rule(0, made, 0, 0);
            }
            x.putMany(0, A, count);
            if (count == 7) {
                dueOutcomes("36, that come to the same", x, 1, 36, 1, 1);
            } else {
                dueOutcomes("45, that would come to the same", x, 1, LIMIT, LIMIT, LIMIT);
            }
        }
    }

    private static void noneAtTheLimit() {
        Machine x = eightBehind(0, 0, 5, 6);
        String state = x.state();
        for (int rounds = 1; rounds < 4; rounds++) {
            int asked = rounds;
            due("one before", 1, () -> x.outcomes(0));
            due("the limit", LIMIT, () -> x.outcomes(asked));
            for (int i : new int[] {-1, 0, 1, 39, 40}) {
                dueThrow("no outcome " + i, INDEX, () -> x.outcome(i, 0, 0));
                dueThrow("no outcome " + i + " to adopt", INDEX, () -> x.adopt(i));
            }
            dueState("nothing changes", x, state);
        }
        Machine y = three(6, 10, 12);
        due("one before", 1, () -> y.outcomes(0));
        due("the limit by choices", LIMIT, () -> y.outcomes(2));
        dueThrow("no outcome", INDEX, () -> y.outcome(0, 0, 0));
        dueThrow("none to adopt", INDEX, () -> y.adopt(0));
        due("one again", 1, () -> y.outcomes(0));
        due("that can be asked", 12, () -> y.outcome(0, 3, 0));
    }

    private static void asked() {
        Machine x = new Machine();
        x.clear(3);
        for (int m = 1; m < 6; m++) {
            x.membrane(m - 1, m % 4);
        }
        for (int m = 0; m < 6; m++) {
            for (int kind = 0; kind < 5; kind++) {
                x.putMany(m, 1 << (2 * kind), (m + 3 * kind) % 13);
            }
        }
        x.outcomes(0);
        for (int m = 0; m < 6; m++) {
            int number = m;
            for (int kind = 0; kind < 5; kind++) {
                int what = kind;
                due("objects of kind " + kind + " in " + m, (m + 3 * kind) % 13, () -> x.outcome(0, number, what));
                due("outside", 0, () -> x.outcome(0, number, 6 + what));
            }
            due("label of " + m, m == 0 ? 3 : m % 4, () -> x.outcome(0, number, 5));
        }
        Machine y = new Machine();
        y.rule(0, A, A, A + 2 * B + 3 * C + E);
        y.putMany(0, A, 9);
        for (int i = 0; i < 36; i++) {
            y.round();
        }
        y.outcomes(1);
        int[] outside = {333, 666, 999, 0, 333};
        for (int m = 0; m < 6; m++) {
            int number = m;
            for (int kind = 0; kind < 5; kind++) {
                int what = kind + 6;
                due("outside, whatever m", outside[kind], () -> y.outcome(0, number, what));
            }
        }
    }

    private static void noSuchMembrane() {
        for (int gone = 1; gone < 6; gone++) {
            Machine x = new Machine();
            for (int m = 1; m < 6; m++) {
                x.membrane(0, m == gone ? 2 : 3);
            }
            x.put(gone, A + B);
            x.rule(2, A, 0, 0);
            x.dissolve(0);
            x.outcomes(1);
            for (int m = 0; m < 6; m++) {
                int number = m;
                int label = m == 0 ? 0 : m == gone ? NONE : 3;
                due("the label of " + m + " without " + gone, label, () -> x.outcome(0, number, 5));
                int objects = m == 0 ? 1 : m == gone ? NONE : 0;
                due("objects of " + m + " without " + gone, objects, () -> x.outcome(0, number, 1));
                due("outside", 0, () -> x.outcome(0, number, 6));
            }
            int still = gone;
            due(gone + " is there now", 2, () -> x.at(still, 5));
        }
    }

    private static void foundLast() {
        Machine x = new Machine();
        x.rule(0, A, B, 0);
        x.rule(0, A, C, 0);
        x.put(0, A);
        due("two", 2, () -> x.outcomes(1));
        x.put(0, E);
        x.membrane(0, 1);
        x.rule(0, B, D, 0);
        x.round();
        x.into(0, 1, E);
        x.rule(3, A, 0, 0);
        x.dissolve(3);
        x.rule(3, A, 0, 0);
        x.divide(4, B);
        dueSkins("they stay as they were", x, "b", "c");
        dueThrow("a refused call", ARGUMENT, () -> x.outcomes(4));
        dueSkins("they stay", x, "b", "c");
        due("then others", 1, () -> x.outcomes(1));
        dueOutcome("another", x, 0, "0:de 1: - - - - 0,0,0,0,0");
        dueThrow("one alone", INDEX, () -> x.outcome(1, 0, 0));
        x.clear(0);
        dueThrow("none from clear on", INDEX, () -> x.outcome(0, 0, 0));
        dueThrow("none to adopt from clear on", INDEX, () -> x.adopt(0));
    }

    private static void adopted() {
        Machine x = new Machine();
        x.clear(3);
        x.membrane(0, 1);
        x.membrane(1, 2);
        x.put(1, A + B);
        x.put(0, E);
        x.rule(3, E, 0, 3 * E);
        x.rule(1, A, 0, D);
        x.dissolve(1);
        x.rule(2, A, 0, C);
        x.divide(2, B);
        x.put(2, A);
        x.rule(2, A, E, 0);
        due("two", 2, () -> x.outcomes(1));
        String now = x.state();
        dueThrow("no outcome 2", INDEX, () -> x.adopt(2));
        dueThrow("no outcome -1", INDEX, () -> x.adopt(-1));
        dueState("as before", x, now);
        x.adopt(1);
        dueState("the last", x, "3(bd2(e)) outside 0,0,0,0,3");
        compare("numbers of the last", "02", x.numbers());
        due("its parent", 0, () -> x.at(2, 6));
        x.adopt(0);
        dueState("the first, of those found last", x, "3(bcd2()2(b)) outside 0,0,0,0,3");
        compare("numbers of the first", "023", x.numbers());
        x.put(0, E);
        due("the rules are there", 1, x::round);
        dueState("it goes on", x, "3(bcd2()2(b)) outside 0,0,0,0,6");
        due("the outcome is as it was", 3, () -> x.outcome(0, 0, 10));
        x.adopt(0);
        dueState("and can be adopted again", x, "3(bcd2()2(b)) outside 0,0,0,0,3");
    }

    private static void lastOfForty() {
        Machine x = eightBehind(0, 5, 5, 6);
        due("40", 40, () -> x.outcomes(1));
        dueThrow("no outcome 40", INDEX, () -> x.adopt(40));
        x.adopt(39);
        dueState("the last", x, "0(bbbbbbbccccccccccccddddd1(2()))" + NOTHING);
        due("and no rule is used", 0, x::round);
    }

    private static void againAndAgain() {
        Machine x = eightBehind(0, 5, 5, 6);
        while (x.callsLeft() > 1) {
            due("40 again", 40, () -> x.outcomes(3));
        }
        due("the last of them", 12, () -> x.outcome(39, 0, 2));
    }
}
