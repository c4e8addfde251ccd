/**
 * The sentences on handfuls, membranes, labels, rules, their numbers and the writing that name a boundary: each
 * at it and on either side. (That refused calls change nothing is in RefusedCallsTest.)
 */
public final class ObjectsBoundariesTest extends Checks {
    private static final String NOTHING = " outside 0,0,0,0,0";

    public static void main(String[] args) {
        sentence("a new object: the skin, with label 0 and without objects, no rules, nothing outside, no outcomes",
                ObjectsBoundariesTest::newObject);
        sentence("clear: as at first, but for the skin's label", ObjectsBoundariesTest::cleared);
        sentence("of kind k a handful has as many as its bits 2 k and 2 k + 1 say", ObjectsBoundariesTest::handfuls);
        sentence("handfuls here, out, into, other", ObjectsBoundariesTest::handfulsOfRules);
        sentence("membranes have numbers 0 .. 5, the least that is not there", ObjectsBoundariesTest::numbers);
        sentence("0 is the skin, which is always there", ObjectsBoundariesTest::skinStays);
        sentence("a label 0 .. 3; a rule has a label, whose membranes may use it", ObjectsBoundariesTest::labels);
        sentence("0 .. 12 objects of each kind", ObjectsBoundariesTest::twelve);
        sentence("rules, at most 6, have numbers 0, 1, ..", ObjectsBoundariesTest::sixRules);
        sentence("into: in place of one that it made so", ObjectsBoundariesTest::intoInPlace);
        sentence("at: objects, label, parent (NONE for the skin), children", ObjectsBoundariesTest::asked);
        sentence("the writing of a membrane", ObjectsBoundariesTest::writing);
        sentence("character i (from 0); NONE when there is none", ObjectsBoundariesTest::characters);
        sentence("an object is used for at most 512 calls", ObjectsBoundariesTest::lastCall);
        end();
    }

    private static void newObject() {
        Machine x = new Machine();
        dueState("new", x, "0()" + NOTHING);
        compare("only the skin", "0", x.numbers());
        due("its label", 0, () -> x.at(0, 5));
        due("its parent", NONE, () -> x.at(0, 6));
        due("its children", 0, () -> x.at(0, 7));
        due("one choice", 1, () -> x.choices(0));
        dueThrow("no rules", INDEX, () -> x.uses(0, 0));
        dueThrow("no outcomes", INDEX, () -> x.outcome(0, 0, 0));
        dueThrow("none to adopt", INDEX, () -> x.adopt(0));
        due("nothing is used", 0, x::round);
        due("the first rule", 0, () -> x.rule(0, A, 0, 0));
        due("the first membrane", 1, () -> x.membrane(0, 0));
    }

    private static void cleared() {
        for (int label = 0; label < 4; label++) {
            int given = label;
            Machine x = new Machine();
            for (int m = 1; m < 6; m++) {
                x.membrane(m - 1, 3);
            }
            for (int rule = 0; rule < 5; rule++) {
                x.rule(0, A, 0, A);
                x.into(rule, 3, B);
                if (rule == 0) {
                    x.dissolve(rule);
                } else {
                    x.divide(rule, E);
                }
            }
            x.rule(0, B, 0, 1023);
            x.put(0, 1023);
            x.put(5, 1023);
            x.round();
            x.outcomes(2);
            x.clear(label);
            dueState("cleared", x, label + "()" + NOTHING);
            compare("cleared: only the skin", "0", x.numbers());
            due("cleared: the label", given, () -> x.at(0, 5));
            dueThrow("cleared: no rules", INDEX, () -> x.uses(0, 0));
            dueThrow("cleared: no outcomes", INDEX, () -> x.outcome(0, 0, 5));
            dueThrow("cleared: none to adopt", INDEX, () -> x.adopt(0));
            due("cleared: nothing is used", 0, x::round);
            due("cleared: rules from 0", 0, () -> x.rule(given, A, B, 0));
            due("cleared: then 1", 1, () -> x.rule(given, C, D, 0));
            due("cleared: membranes from 1", 1, () -> x.membrane(0, 2));
            x.put(0, 2 * A + 2 * C);
            due("cleared: the rules need no child, and do not dissolve or divide", 4, x::round);
            dueState("cleared: nor make they anything into one", x, label + "(bbdd2())" + NOTHING);
            dueThrow("cleared: it may dissolve", null, () -> x.dissolve(1));
            dueThrow("cleared: it may divide", null, () -> x.divide(0, 0));
        }
    }

    private static void handfuls() {
        for (int handful = 0; handful < 1024; handful++) {
            Machine x = new Machine();
            x.put(0, handful);
            compare("put(0, " + handful + ")", "0(" + letters(handful) + ")", x.writing());
            for (int kind = 0; kind < 5; kind++) {
                int what = kind;
                due("at(0, " + kind + ") of " + handful, handful >> (2 * kind) & 3, () -> x.at(0, what));
            }
        }
    }

    private static void handfulsOfRules() {
        for (int handful = 0; handful < 1024; handful++) {
            Machine x = new Machine();
            x.membrane(0, 1);
            x.membrane(0, 2);
            x.membrane(0, 3);
            x.rule(0, A, 0, handful);
            x.rule(0, B, 0, 0);
            if (handful != 0) {
                x.into(1, 1, handful);
            }
            x.rule(2, C, handful, 0);
            x.divide(2, 1023 - handful);
            x.rule(3, D, handful, handful);
            x.put(0, A + B);
            x.put(2, C);
            x.put(3, D);
            x.round();
            String has = "(" + letters(handful);
            String due = "0" + has + "1" + has + ")2" + has + ")3" + has + ")2(" + letters(1023 - handful) + ")) outside ";
            dueState("handful " + handful, x, due + counts(handful));
        }
    }

    private static String letters(int handful) {
        StringBuilder text = new StringBuilder();
        for (int kind = 0; kind < 5; kind++) {
            text.append(("" + (char) ('a' + kind)).repeat(handful >> (2 * kind) & 3));
        }
        return text.toString();
    }

    private static String counts(int handful) {
        StringBuilder text = new StringBuilder();
        for (int kind = 0; kind < 5; kind++) {
            text.append(kind == 0 ? "" : ",").append(handful >> (2 * kind) & 3);
        }
        return text.toString();
    }

    private static void numbers() {
        for (int gone = 1; gone < 6; gone++) {
            Machine x = new Machine();
            for (int m = 1; m < 6; m++) {
                int number = m;
                int label = m == gone ? 2 : 1;
                due("membrane " + m, number, () -> x.membrane(0, label));
            }
            compare("six", "012345", x.numbers());
            dueThrow("no seventh", STATE, () -> x.membrane(0, 1));
            x.rule(2, A, 0, 0);
            x.dissolve(0);
            x.put(gone, A + B);
            x.round();
            compare("without " + gone, "012345".replace("" + gone, ""), x.numbers());
            int free = gone;
            due("the least number is " + gone, free, () -> x.membrane(free == 5 ? 4 : 5, 3));
            due("a label of its own", 3, () -> x.at(free, 5));
            due("nothing of the old one", 0, () -> x.at(free, 1));
            dueThrow("again no seventh", STATE, () -> x.membrane(0, 1));
        }
        Machine x = new Machine();
        for (int m = 1; m < 6; m++) {
            x.membrane(0, m % 2);
        }
        x.put(2, A);
        x.put(4, A);
        x.rule(0, A, 0, 0);
        x.dissolve(0);
        x.round();
        due("the least of two", 2, () -> x.membrane(0, 0));
        due("then the other", 4, () -> x.membrane(0, 0));
        dueThrow("then none", STATE, () -> x.membrane(0, 0));
    }

    private static void skinStays() {
        Machine x = new Machine();
        for (int m = 1; m < 6; m++) {
            x.membrane(m - 1, 0);
            x.put(m, A);
        }
        x.put(0, A);
        x.rule(0, A, 0, B);
        x.dissolve(0);
        due("all but the skin dissolve", 5, x::round);
        dueState("the skin", x, "0(abbbbb)" + NOTHING);
        compare("the skin alone", "0", x.numbers());
        due("the skin does not dissolve", 0, x::round);
        compare("the skin is there", "0", x.numbers());
    }

    private static void labels() {
        for (int skin = 0; skin < 4; skin++) {
            for (int label = 0; label < 4; label++) {
                Machine x = new Machine();
                x.clear(skin);
                x.put(0, A);
                for (int m = 1; m < 5; m++) {
                    x.membrane(0, m - 1);
                    x.put(m, A);
                    int number = m;
                    due("the label of " + m, number - 1, () -> x.at(number, 5));
                }
                x.rule(label, A, 0, 0);
                for (int m = 0; m < 5; m++) {
                    int number = m;
                    int its = m == 0 ? skin : m - 1;
                    due("label " + label + " used by " + its, its == label ? 1 : 0, () -> x.uses(number, 0));
                }
                due("all of them", skin == label ? 2 : 1, x::round);
            }
        }
    }

    private static void twelve() {
        for (int kind = 0; kind < 5; kind++) {
            int what = kind;
            int one = 1 << (2 * kind);
            Machine x = new Machine();
            x.membrane(0, 1);
            due("none", 0, () -> x.at(0, what));
            for (int n = 1; n <= 12; n++) {
                if (n > 9) {
                    dueThrow("3 more than " + (n - 1), n > 10 ? STATE : null, () -> twin(what, x).put(0, 3 * one));
                    dueThrow("2 more than " + (n - 1), n > 11 ? STATE : null, () -> twin(what, x).put(0, 2 * one));
                }
                x.put(0, one);
                int count = n;
                due("now " + n, count, () -> x.at(0, what));
            }
            dueThrow("a thirteenth of kind " + kind, STATE, () -> x.put(0, one));
            dueThrow("with others", STATE, () -> x.put(0, 1023));
            due("still 12", 12, () -> x.at(0, what));
            dueThrow("an empty handful", null, () -> x.put(0, 0));
            dueThrow("3 of all other kinds", null, () -> x.put(0, 1023 - 3 * one));
            dueThrow("another membrane", null, () -> x.put(1, one));
            due("12 are 12 uses", 12, () -> {
                x.rule(0, one, 0, 0);
                return x.uses(0, 0);
            });
        }
    }

    /** Another machine with as many objects of a kind in the skin. */
    private static Machine twin(int kind, Machine x) {
        Machine y = new Machine();
        y.putMany(0, 1 << (2 * kind), x.at(0, kind));
        return y;
    }

    private static void sixRules() {
        Machine x = new Machine();
        x.membrane(0, 1);
        for (int rule = 0; rule < 6; rule++) {
            int number = rule;
            dueThrow("uses before rule " + rule, INDEX, () -> x.uses(0, number));
            int label = rule < 5 ? 0 : 1;
            due("rule " + rule, number, () -> x.rule(label, 1 << (2 * (number % 5)), 0, 1 << (2 * (number % 5))));
            due("uses behind it", 0, () -> x.uses(0, number));
        }
        dueThrow("a seventh", STATE, () -> x.rule(0, A, 0, 0));
        dueThrow("no number 6", INDEX, () -> x.uses(0, 6));
        x.put(0, 1023);
        x.put(1, 3 * A);
        due("the last rule's uses", 3, () -> x.uses(1, 5));
        due("all six are used", 18, x::round);
        dueState("all six", x, "0(aaa1()) outside 3,3,3,3,3");
    }

    private static void intoInPlace() {
        Machine x = new Machine();
        x.membrane(0, 0);
        x.membrane(0, 3);
        x.rule(0, A, 0, 0);
        x.into(0, 0, A);
        x.into(0, 3, 1023);
        x.put(0, A);
        due("used", 1, x::round);
        dueState("the last one alone", x, "0(0()3(aaabbbcccdddeee))" + NOTHING);
        x.into(0, 1, A);
        x.put(0, A);
        due("no child with label 1", 0, x::round);
        x.into(0, 0, B);
        due("one with label 0", 1, x::round);
        dueState("then that", x, "0(0(b)3(aaabbbcccdddeee))" + NOTHING);
    }

    private static void asked() {
        Machine x = new Machine();
        for (int m = 1; m < 6; m++) {
            int children = m - 1;
            due("children", children, () -> x.at(0, 7));
            due("parent of the skin", NONE, () -> x.at(0, 6));
            x.membrane(0, m % 4);
            int number = m;
            due("no children", 0, () -> x.at(number, 7));
            due("label", number % 4, () -> x.at(number, 5));
        }
        due("five children", 5, () -> x.at(0, 7));
        Machine y = new Machine();
        for (int m = 1; m < 6; m++) {
            y.membrane(m - 1, 0);
            int number = m;
            due("parent", number - 1, () -> y.at(number, 6));
            due("one child, grandchildren do not count", 1, () -> y.at(0, 7));
        }
        for (int kind = 0; kind < 5; kind++) {
            y.putMany(5, 1 << (2 * kind), kind * 3);
        }
        for (int kind = 0; kind < 5; kind++) {
            int what = kind;
            due("objects", what * 3, () -> y.at(5, what));
        }
    }

    private static void writing() {
        Machine x = new Machine();
        x.clear(3);
        x.membrane(0, 1);
        x.membrane(0, 2);
        x.put(1, A);
        x.rule(1, A, 0, 0);
        x.dissolve(0);
        x.round();
        x.membrane(2, 0);
        x.membrane(0, 1);
        x.membrane(1, 1);
        x.membrane(0, 0);
        x.put(0, 3 * E + A);
        x.put(4, D + 2 * B);
        compare("children by numbers, not by age", "3(aeee2(0(1(bbd)))1()0())", x.writing());
    }

    private static void characters() {
        Machine x = new Machine();
        int[] asked = {Integer.MIN_VALUE, -1, 0, 1, 2, 3, 4, 65536, Integer.MAX_VALUE};
        int[] due = {NONE, NONE, '0', '(', ')', NONE, NONE, NONE, NONE};
        for (int i = 0; i < asked.length; i++) {
            int at = asked[i];
            due("written(" + at + ")", due[i], () -> x.written(at));
        }
        Machine y = new Machine();
        for (int m = 0; m < 6; m++) {
            if (m > 0) {
                y.membrane(m - 1, 3);
            }
            y.fill(m);
        }
        due("the longest: its first", '0', () -> y.written(0));
        due("its first a", 'a', () -> y.written(2));
        due("its twelfth a", 'a', () -> y.written(13));
        due("its first b", 'b', () -> y.written(14));
        due("its last e", 'e', () -> y.written(371));
        due("its brackets from here", ')', () -> y.written(372));
        due("its last", ')', () -> y.written(377));
        due("behind its last", NONE, () -> y.written(378));
    }

    private static void lastCall() {
        Machine x = new Machine();
        x.rule(0, A, A, B);
        x.put(0, A);
        for (int i = 0; i < 509; i++) {
            x.round();
        }
        due("the 512th call", 509, () -> x.outside(1));
        due("no calls left", 0, x::callsLeft);
    }
}
