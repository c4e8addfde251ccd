/**
 * The sentences on what is allowed and maximal, on the machine's choice, on the order of all choices and on how
 * far they are counted: each at its boundary and on either side of it.
 */
public final class ChoicesBoundariesTest extends Checks {
    public static void main(String[] args) {
        sentence("allowed: the membrane has all that a use takes", ChoicesBoundariesTest::takesOnce);
        sentence("allowed: the membrane has all that many uses take", ChoicesBoundariesTest::takesOften);
        sentence("allowed: all that these take together", ChoicesBoundariesTest::takesTogether);
        sentence("allowed: one that makes something into a label has a child of the membrane with that label",
                ChoicesBoundariesTest::childWithLabel);
        sentence("allowed: one that dissolves or divides is not the skin's", ChoicesBoundariesTest::notTheSkins);
        sentence("allowed: one that divides, its membrane has no children", ChoicesBoundariesTest::noChildren);
        sentence("allowed: those that dissolve or divide are used once at most", ChoicesBoundariesTest::once);
        sentence("allowed: once at most, all together", ChoicesBoundariesTest::onceTogether);
        sentence("once at most in one membrane; others as well", ChoicesBoundariesTest::onceInEach);
        sentence("maximal: with one more use of any one rule it is not allowed", ChoicesBoundariesTest::maximal);
        sentence("maximal, where once at most is the bound", ChoicesBoundariesTest::maximalOnce);
        sentence("maximal: what comes later may stop what came before", ChoicesBoundariesTest::stoppedByLater);
        sentence("the machine's choice: each rule as many times as is allowed with those before it",
                ChoicesBoundariesTest::machine);
        sentence("the machine's choice is the first of all", ChoicesBoundariesTest::machineIsFirst);
        sentence("all choices for a membrane, in order", ChoicesBoundariesTest::order);
        sentence("all choices for a configuration, in order", ChoicesBoundariesTest::orderOfMembranes);
        sentence("choices are only counted up to 1000", ChoicesBoundariesTest::counted);
        end();
    }

    private static Machine skinWith(int handful, int... lefts) {
        Machine x = new Machine();
        x.put(0, handful);
        for (int left : lefts) {
            x.rule(0, left, 0, 0);
        }
        return x;
    }

    private static void dueUses(String what, Machine x, int m, int... want) {
        for (int r = 0; r < want.length; r++) {
            int rule = r;
            due(what + ", rule " + r, want[r], () -> x.uses(m, rule));
        }
    }

    private static void takesOnce() {
        for (int left = 1; left < 1024; left++) {
            dueUses("left " + left + ", and just that", skinWith(left, left), 0, 1);
            for (int one = 1; one < 1024; one *= 4) {
                if ((left / one) % 4 > 0) {
                    dueUses("left " + left + " without " + one, skinWith(left - one, left), 0, 0);
                }
                if ((left / one) % 4 < 3) {
                    dueUses("left " + left + " and " + one, skinWith(left + one, left), 0, 1 + more(left, one));
                }
            }
        }
    }

    /** One more object makes a second use possible when one is all that is taken. */
    private static int more(int left, int one) {
        return left == one ? 1 : 0;
    }

    private static void takesOften() {
        for (int one = 1; one < 1024; one *= 4) {
            for (int taken = 1; taken <= 3; taken++) {
                for (int count = 0; count <= 12; count++) {
                    Machine x = new Machine();
                    x.putMany(0, one, count);
                    x.rule(0, taken * one, 0, 0);
                    dueUses(taken + " of " + count, x, 0, count / taken);
                    int due = count / taken;
                    due("round", due, x::round);
                    String left = ("" + "abcde".charAt(Integer.numberOfTrailingZeros(one) / 2)).repeat(count % taken);
                    compare("what is left", "0(" + left + ")", x.writing());
                }
            }
        }
    }

    private static void takesTogether() {
        Machine x = skinWith(3 * A + 2 * B, 2 * A + B, A + B, A);
        dueUses("the first leaves just enough", x, 0, 1, 1, 0);
        x.put(0, A);
        dueUses("and one more", x, 0, 2, 0, 0);
        Machine y = skinWith(3 * A + B, 2 * A + B, A + B, A);
        dueUses("too little for the second", y, 0, 1, 0, 1);
        Machine z = skinWith(1023, 1023, A, B, C, D, E);
        dueUses("all is taken", z, 0, 1, 0, 0, 0, 0, 0);
        z.put(0, E);
        dueUses("but one", z, 0, 1, 0, 0, 0, 0, 1);
        dueUses("one is missing", skinWith(1023 - E, 1023, A, B, C, D, E), 0, 0, 3, 3, 3, 3, 2);
    }

    private static void childWithLabel() {
        for (int label = 0; label < 4; label++) {
            Machine x = new Machine();
            x.clear((label + 1) % 4);
            x.membrane(0, (label + 2) % 4);
            x.membrane(1, label);
            x.rule((label + 1) % 4, A, 0, 0);
            x.into(0, label, B);
            x.put(0, 2 * A);
            dueUses("a grandchild is no child", x, 0, 0);
            due("no other choice", 1, () -> x.choices(0));
            due("nothing is used", 0, x::round);
            x.membrane(0, (label + 3) % 4);
            dueUses("one with another label", x, 0, 0);
            x.membrane(0, label);
            dueUses("a child with the label", x, 0, 2);
            due("used", 2, x::round);
            due("made into it", 2, () -> x.at(4, 1));
            due("not into the grandchild", 0, () -> x.at(2, 1));
        }
        Machine y = new Machine();
        y.clear(1);
        y.membrane(0, 2);
        y.membrane(0, 1);
        y.put(1, A);
        y.rule(2, A, 0, 0);
        y.into(0, 2, B);
        dueUses("the membrane itself is no child", y, 1, 0);
        y.into(0, 1, B);
        dueUses("nor its parent, nor one beside it", y, 1, 0);
        y.membrane(1, 1);
        dueUses("but this one", y, 1, 1);
        y.rule(1, C, 0, 0);
        y.dissolve(1);
        y.put(3, C);
        dueUses("as long as it is there", y, 1, 1);
        due("used while it dissolves", 2, y::round);
        y.put(1, A);
        dueUses("now it is gone", y, 1, 0);
        compare("what came into it is in the parent", "1(2(ab)1())", y.writing());
    }

    private static void notTheSkins() {
        for (int label = 0; label < 4; label++) {
            for (int ending = 0; ending < 2; ending++) {
                Machine x = new Machine();
                x.clear(label);
                x.rule(label, A, 0, B);
                if (ending == 0) {
                    x.dissolve(0);
                } else {
                    x.divide(0, 0);
                }
                x.put(0, A);
                dueUses("the skin", x, 0, 0);
                due("the skin's one choice", 1, () -> x.choices(0));
                due("the skin uses nothing", 0, x::round);
                x.membrane(0, label);
                x.put(1, A);
                dueUses("the skin with a child", x, 0, 0);
                dueUses("another with its label", x, 1, 1);
                due("which is used", 1, x::round);
                int there = ending == 0 ? 0 : 2;
                due("the skin has as many children", there, () -> x.at(0, 7));
            }
        }
    }

    private static void noChildren() {
        Machine x = new Machine();
        x.membrane(0, 1);
        x.membrane(1, 2);
        x.rule(1, A, 0, 0);
        x.divide(0, C);
        x.rule(2, B, 0, 0);
        x.dissolve(1);
        x.put(1, 2 * A);
        dueUses("with a child", x, 1, 0);
        due("no other choice", 1, () -> x.choices(1));
        x.put(2, B);
        dueUses("with a child that dissolves now", x, 1, 0);
        due("only that is used", 1, x::round);
        dueUses("then without children", x, 1, 1);
        due("divided", 1, x::round);
        compare("divided", "0(1(a)1(ac))", x.writing());
        x.membrane(2, 3);
        dueUses("with a child again", x, 2, 0);
        dueUses("the other one", x, 1, 1);
        Machine y = new Machine();
        y.membrane(0, 1);
        y.membrane(1, 2);
        y.rule(1, A, 0, 0);
        y.dissolve(0);
        y.put(1, A);
        dueUses("with a child it may dissolve", y, 1, 1);
    }

    private static void once() {
        for (int count = 0; count <= 12; count++) {
            for (int ending = 0; ending < 2; ending++) {
                Machine x = new Machine();
                x.membrane(0, 1);
                x.rule(1, A, 0, 0);
                if (ending == 0) {
                    x.dissolve(0);
                } else {
                    x.divide(0, 0);
                }
                x.putMany(1, A, count);
                dueUses("once of " + count, x, 1, Math.min(1, count));
                due("one choice", 1, () -> x.choices(1));
                x.rule(1, A, 0, 0);
                dueUses("the others are taken by another", x, 1, Math.min(1, count), Math.max(0, count - 1));
                due("once or not at all", count == 0 ? 1 : 2, () -> x.choices(1));
            }
        }
    }

    private static void onceTogether() {
        for (int endings = 0; endings < 4; endings++) {
            Machine x = new Machine();
            x.membrane(0, 1);
            for (int rule = 0; rule < 2; rule++) {
                x.rule(1, rule == 0 ? A : B, 0, 0);
                if ((endings >> rule & 1) == 0) {
                    x.dissolve(rule);
                } else {
                    x.divide(rule, 0);
                }
            }
            x.put(1, B);
            dueUses("the second alone", x, 1, 0, 1);
            due("no other choice", 1, () -> x.choices(1));
            x.put(1, 2 * A + 2 * B);
            dueUses("the first of two", x, 1, 1, 0);
            due("one or the other", 2, () -> x.choices(1));
            x.rule(1, A + B, 0, 0);
            dueUses("and a third", x, 1, 1, 0, 1);
            due("each with as many of the third as are left", 2, () -> x.choices(1));
        }
    }

    private static void onceInEach() {
        Machine x = new Machine();
        for (int m = 1; m < 4; m++) {
            x.membrane(0, 1);
            x.put(m, 2 * A);
        }
        x.rule(1, A, 0, B);
        x.dissolve(0);
        for (int m = 1; m < 4; m++) {
            dueUses("once in " + m, x, m, 1);
        }
        due("three dissolve", 3, x::round);
        compare("three", "0(aaabbb)", x.writing());
    }

    private static void maximal() {
        due("nothing to take", 1, () -> skinWith(0, A, B).choices(0));
        due("too little to take", 1, () -> skinWith(A, 2 * A, 3 * A).choices(0));
        due("1 of 3 is left", 1, () -> skinWith(3 * A, 2 * A).choices(0));
        due("no rules", 1, () -> skinWith(1023).choices(0));
        for (int count = 0; count <= 12; count++) {
            Machine x = new Machine();
            x.putMany(0, A, count);
            x.rule(0, 2 * A, 0, 0);
            x.rule(0, 3 * A, 0, 0);
            int due = twosAndThrees(count);
            due("2 and 3 of " + count, due, () -> x.choices(0));
        }
        due("a b, a, b: 1 + 0 + 0, 0 + 1 + 1", 2, () -> skinWith(A + B, A + B, A, B).choices(0));
        due("a b, a: b may be left, a may not", 2, () -> skinWith(A + B, A + B, A).choices(0));
        due("a b alone", 1, () -> skinWith(A + B, A + B).choices(0));
    }

    /** Ways to take twos and threes such that 0 or 1 are left: what is left could not be taken. */
    private static int twosAndThrees(int count) {
        int ways = 0;
        for (int twos = 0; 2 * twos <= count; twos++) {
            int rest = count - 2 * twos;
            ways += rest % 3 < 2 ? 1 : 0;
        }
        return ways;
    }

    private static void maximalOnce() {
        Machine x = new Machine();
        x.membrane(0, 1);
        x.rule(1, B, 0, 0);
        x.dissolve(0);
        x.rule(1, A, 0, 0);
        x.put(1, 3 * A + 3 * B);
        due("it dissolves, though two b are left", 1, () -> x.choices(1));
        x.rule(1, A, C, 0);
        x.divide(2, D);
        due("or it divides, with an a less for the second", 2, () -> x.choices(1));
        dueUses("the first of these", x, 1, 1, 3, 0);
        due("two outcomes", 2, () -> x.outcomes(1));
        dueOutcome("dissolved", x, 0, "0:bb - - - - - 0,0,0,0,0");
        dueOutcome("divided", x, 1, "0: 1:bbbc 1:bbbd - - - 0,0,0,0,0");
    }

    private static void stoppedByLater() {
        Machine x = new Machine();
        x.put(0, 2 * A + B + C);
        x.rule(0, A + B, 0, A);
        x.rule(0, A + C, 0, B);
        x.rule(0, B + C, 0, C);
        x.rule(0, 2 * A, 0, D);
        due("two that leave nothing", 2, () -> x.choices(0));
        due("two that leave nothing", 2, () -> x.outcomes(1));
        dueOutcome("the first two", x, 0, "0: - - - - - 1,1,0,0,0");
        dueOutcome("the last two", x, 1, "0: - - - - - 0,0,1,1,0");
    }

    private static void machine() {
        dueUses("not the most uses in all", skinWith(3 * A, 3 * A, A), 0, 1, 0);
        dueUses("by number", skinWith(3 * A, A, 3 * A), 0, 3, 0);
        dueUses("what the first leaves", skinWith(3 * A, 2 * A, 3 * A, A), 0, 1, 0, 1);
        Machine x = new Machine();
        x.put(0, 2 * A);
        x.rule(0, A, B, 0);
        x.rule(0, B, A, 0);
        dueUses("what is made is not there yet", x, 0, 2, 0);
    }

    private static void machineIsFirst() {
        Machine x = new Machine();
        Machine y = new Machine();
        for (Machine each : new Machine[] {x, y}) {
            each.membrane(0, 1);
            each.membrane(0, 1);
            each.rule(1, 2 * A, 0, B);
            each.rule(1, A, 0, C);
            each.rule(0, A + B, 0, D);
            each.rule(0, A, E, 0);
            each.put(0, 2 * A + B);
            each.put(1, 3 * A);
            each.put(2, 2 * A);
        }
        due("uses", 5, x::round);
        due("eight choices, of which two pairs come to the same", 6, () -> y.outcomes(1));
        y.adopt(0);
        compare("the same", x.state(), y.state());
    }

    private static void order() {
        Machine x = new Machine();
        x.rule(1, A, E, 0);
        x.rule(0, A, B, 0);
        x.rule(2, A, E, 0);
        x.rule(0, A, C, 0);
        x.rule(0, A, D, 0);
        x.put(0, 3 * A);
        String[] due = {"bbb", "bbc", "bbd", "bcc", "bcd", "bdd", "ccc", "ccd", "cdd", "ddd"};
        due("ten", due.length, () -> x.outcomes(1));
        for (int i = 0; i < due.length; i++) {
            dueOutcome("in order", x, i, "0:" + due[i] + " - - - - - 0,0,0,0,0");
        }
    }

    private static void orderOfMembranes() {
        Machine x = new Machine();
        x.membrane(0, 2);
        x.membrane(0, 1);
        x.put(1, D);
        x.rule(2, D, 0, 0);
        x.dissolve(0);
        x.round();
        x.membrane(2, 1);
        compare("1 is in 2", "0(1(1()))", x.writing());
        x.rule(0, A, B, 0);
        x.rule(0, A, C, 0);
        x.rule(1, A, B, 0);
        x.rule(1, A, C, 0);
        x.put(0, A);
        x.put(1, A);
        x.put(2, A);
        due("eight", 8, () -> x.outcomes(1));
        for (int i = 0; i < 8; i++) {
            String due = "0:" + "bc".charAt(i >> 2 & 1) + " 1:" + "bc".charAt(i >> 1 & 1) + " 1:" + "bc".charAt(i & 1);
            dueOutcome("the last one's changes fastest", x, i, due + " - - - 0,0,0,0,0");
        }
    }

    private static void counted() {
        Machine x = new Machine();
        x.rule(0, A, 0, 0);
        x.rule(0, A, 0, 0);
        for (int count = 0; count <= 12; count++) {
            int due = count + 1;
            due("between two", due, () -> x.choices(0));
            if (count < 12) {
                x.put(0, A);
            }
        }
        Machine less = with999Choices();
        due("999", 999, () -> less.choices(0));
        less.put(0, C);
        due("1023 are counted to 1000", 1000, () -> less.choices(0));
        Machine just = new Machine();
        for (int one : new int[] {A, B, C}) {
            just.rule(0, one, 0, 0);
            just.rule(0, one, 0, 0);
            just.putMany(0, one, 9);
        }
        due("10 * 10 * 10", 1000, () -> just.choices(0));
        just.put(0, A);
        due("11 * 10 * 10 are counted to 1000", 1000, () -> just.choices(0));
        Machine more = new Machine();
        for (int i = 0; i < 5; i++) {
            more.rule(0, A, 0, 0);
        }
        more.putMany(0, A, 9);
        due("715", 715, () -> more.choices(0));
        more.put(0, A);
        due("1001 are counted to 1000", 1000, () -> more.choices(0));
        more.put(0, 2 * A);
        more.rule(0, A, 0, 0);
        due("6188 are counted to 1000", 1000, () -> more.choices(0));
    }
}
