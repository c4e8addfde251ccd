/** For each promise of the document: ordinary inputs, the edges it names, and wrong inputs. */
public final class PromisesTest extends Checks {
    public static void main(String[] args) {
        constants();
        promise1NewObject();
        promise2Clear();
        promise2ForgetsRules();
        promise3Membrane();
        promise3LeastNumberAgain();
        promise4Put();
        promise5Rule();
        promise6Into();
        promise6NeedsChild();
        promise7Dissolve();
        promise7OrderOfDissolving();
        promise7ChildrenGoToTheParent();
        promise8Divide();
        promise8NotWithChildren();
        promise8OneEndingPerMembrane();
        promise9Round();
        promise9TooMuch();
        promise9FarTooMuch();
        promise9OnlyTheEndCounts();
        promise10Uses();
        promise10OnceIsNotSpentByNoUse();
        promise11Choices();
        promise11Counted();
        promise12At();
        promise13There();
        promise14Outside();
        promise14ThousandAreTooMany();
        promise15Outcomes();
        promise15LeavesOutTooMuch();
        promise15Limit();
        promise15OneTooMany();
        promise15ThousandChoices();
        promise15WhatIsTheSame();
        promise15LimitOnTheWay();
        promise16Outcome();
        promise17Adopt();
        promise18Written();
        promise18FullOnes();
        end();
    }

    private static void constants() {
        due("NONE", -1, () -> MembraneRounds.NONE);
        due("LIMIT", -2, () -> MembraneRounds.LIMIT);
    }

    private static void promise1NewObject() {
        Machine x = new Machine();
        dueState("new", x, "0() outside 0,0,0,0,0");
        for (int m = 1; m < 6; m++) {
            int number = m;
            due("new: there " + m, 0, () -> x.there(number) ? 1 : 0);
        }
        dueThrow("new: no rules", INDEX, () -> x.uses(0, 0));
        dueThrow("new: no outcomes", INDEX, () -> x.outcome(0, 0, 0));
        dueThrow("new: nothing to adopt", INDEX, () -> x.adopt(0));
        due("new: halted", 0, x::round);
        due("new: first rule", 0, () -> x.rule(0, A, 0, 0));
        due("new: first membrane", 1, () -> x.membrane(0, 0));
    }

    private static void promise2Clear() {
        Machine x = new Machine();
        x.membrane(0, 1);
        x.put(0, A);
        x.put(1, B);
        x.rule(0, A, 0, C);
        x.round();
        x.outcomes(0);
        for (int label : new int[] {-1, 4, Integer.MIN_VALUE, Integer.MAX_VALUE}) {
            dueThrow("clear " + label, ARGUMENT, () -> x.clear(label));
        }
        dueState("a clear that throws", x, "0(1(b)) outside 0,0,1,0,0");
        due("a clear that throws keeps outcomes", 1, () -> x.outcome(0, 0, 8));
        for (int label = 3; label >= 0; label--) {
            x.clear(label);
            dueState("clear", x, label + "() outside 0,0,0,0,0");
            dueThrow("clear: no outcomes", INDEX, () -> x.outcome(0, 0, 0));
            dueThrow("clear: no rules", INDEX, () -> x.uses(0, 0));
            x.put(0, A);
            x.rule(label, A, 0, 0);
            x.outcomes(0);
        }
    }

    private static void promise2ForgetsRules() {
        Machine x = new Machine();
        x.rule(0, A, 0, 0);
        x.into(0, 1, B);
        x.dissolve(0);
        x.rule(0, A, 0, 0);
        x.divide(1, B);
        x.clear(2);
        due("clear: numbers from 0", 0, () -> x.rule(2, A, B, 0));
        due("clear: then 1", 1, () -> x.rule(2, C, D, 0));
        x.put(0, A + C);
        due("clear: the old rules' into, dissolve and divide are gone", 2, x::round);
        dueState("clear: new rules used", x, "2(bd) outside 0,0,0,0,0");
        dueThrow("clear: no second dissolve", null, () -> x.dissolve(0));
        dueThrow("clear: no second divide", null, () -> x.divide(1, 0));
    }

    private static void promise3Membrane() {
        Machine x = new Machine();
        due("membrane 1", 1, () -> x.membrane(0, 3));
        due("membrane 2", 2, () -> x.membrane(1, 0));
        dueThrow("membrane: parent -1", INDEX, () -> x.membrane(-1, 0));
        dueThrow("membrane: parent 6", INDEX, () -> x.membrane(6, 0));
        dueThrow("membrane: parent not there", INDEX, () -> x.membrane(3, 0));
        dueThrow("membrane: parent before label", INDEX, () -> x.membrane(3, 4));
        dueThrow("membrane: label -1", ARGUMENT, () -> x.membrane(0, -1));
        dueThrow("membrane: label 4", ARGUMENT, () -> x.membrane(0, 4));
        dueState("membranes that throw", x, "0(3(0())) outside 0,0,0,0,0");
        due("membrane 3", 3, () -> x.membrane(2, 1));
        due("membrane 4", 4, () -> x.membrane(3, 2));
        due("membrane 5", 5, () -> x.membrane(4, 3));
        dueThrow("membrane: a seventh", STATE, () -> x.membrane(0, 0));
        dueThrow("membrane: label before room", ARGUMENT, () -> x.membrane(0, 4));
        dueThrow("membrane: parent before room", INDEX, () -> x.membrane(6, 0));
        dueState("six nested membranes", x, "0(3(0(1(2(3()))))) outside 0,0,0,0,0");
    }

    private static void promise3LeastNumberAgain() {
        Machine x = new Machine();
        x.membrane(0, 1);
        x.membrane(0, 2);
        x.put(1, A);
        x.rule(1, A, 0, 0);
        x.dissolve(0);
        x.round();
        due("membrane: 1 is free again", 1, () -> x.membrane(2, 3));
        due("membrane: its parent has a greater number", 2, () -> x.at(1, 6));
        due("membrane: nothing of the old one", 0, () -> x.at(1, 0));
        dueState("membrane 1 in 2", x, "0(2(3())) outside 0,0,0,0,0");
    }

    private static void promise4Put() {
        Machine x = new Machine();
        x.put(0, 1 * A + 2 * B + 3 * C + 1 * E);
        x.put(0, 0);
        x.put(0, 1023);
        dueState("put", x, "0(aaaabbbbbccccccdddeeee) outside 0,0,0,0,0");
        x.put(0, 3 * C);
        x.put(0, 3 * C);
        due("put: 12 are fine", 12, () -> x.at(0, 2));
        dueThrow("put: 13", STATE, () -> x.put(0, A + C));
        due("put that throws: nothing of the other kinds", 4, () -> x.at(0, 0));
        dueThrow("put: -1 is none", ARGUMENT, () -> x.put(0, -1));
        dueThrow("put: 1024 is none", ARGUMENT, () -> x.put(0, 1024));
        dueThrow("put: membrane -1", INDEX, () -> x.put(-1, A));
        dueThrow("put: membrane not there", INDEX, () -> x.put(1, A));
        dueThrow("put: membrane 6", INDEX, () -> x.put(6, A));
        dueThrow("put: membrane before handful", INDEX, () -> x.put(1, 1024));
        x.membrane(0, 1);
        x.put(1, E);
        dueState("put in 1", x, "0(aaaabbbbbccccccccccccdddeeee1(e)) outside 0,0,0,0,0");
    }

    private static void promise5Rule() {
        Machine x = new Machine();
        dueThrow("rule: label -1", ARGUMENT, () -> x.rule(-1, A, 0, 0));
        dueThrow("rule: label 4", ARGUMENT, () -> x.rule(4, A, 0, 0));
        dueThrow("rule: left 0", ARGUMENT, () -> x.rule(0, 0, A, A));
        dueThrow("rule: left -1", ARGUMENT, () -> x.rule(0, -1, 0, 0));
        dueThrow("rule: left 1024", ARGUMENT, () -> x.rule(0, 1024, 0, 0));
        dueThrow("rule: here -1", ARGUMENT, () -> x.rule(0, A, -1, 0));
        dueThrow("rule: here 1024", ARGUMENT, () -> x.rule(0, A, 1024, 0));
        dueThrow("rule: out -1", ARGUMENT, () -> x.rule(0, A, 0, -1));
        dueThrow("rule: out 1024", ARGUMENT, () -> x.rule(0, A, 0, 1024));
        due("rule 0", 0, () -> x.rule(0, A + 2 * B, 3 * C, D + 2 * E));
        for (int i = 1; i < 6; i++) {
            due("rule " + i, i, () -> x.rule(3, 1023, 0, 0));
        }
        dueThrow("rule: a seventh", STATE, () -> x.rule(0, A, 0, 0));
        dueThrow("rule: arguments before room", ARGUMENT, () -> x.rule(0, 0, 0, 0));
        x.put(0, 3 * A + 3 * B);
        x.put(0, 2 * B);
        due("rule: used", 2, x::round);
        dueState("rule: taken, made here and outside", x, "0(abcccccc) outside 0,0,0,2,4");
    }

    private static void promise6Into() {
        Machine x = new Machine();
        x.membrane(0, 1);
        x.membrane(0, 2);
        x.membrane(0, 2);
        x.membrane(2, 3);
        x.rule(0, A, B, 0);
        x.into(0, 1, C);
        x.into(0, 2, D + 2 * E);
        dueThrow("into: rule -1", INDEX, () -> x.into(-1, 0, A));
        dueThrow("into: rule 1", INDEX, () -> x.into(1, 0, A));
        dueThrow("into: rule before label", INDEX, () -> x.into(1, 4, 0));
        dueThrow("into: label -1", ARGUMENT, () -> x.into(0, -1, A));
        dueThrow("into: label 4", ARGUMENT, () -> x.into(0, 4, A));
        dueThrow("into: handful 0", ARGUMENT, () -> x.into(0, 1, 0));
        dueThrow("into: handful -1", ARGUMENT, () -> x.into(0, 1, -1));
        dueThrow("into: handful 1024", ARGUMENT, () -> x.into(0, 1, 1024));
        x.put(0, 2 * A);
        due("into: used", 2, x::round);
        dueState("into: the last one, least number", x, "0(bb1()2(ddeeee3())2()) outside 0,0,0,0,0");
    }

    private static void promise6NeedsChild() {
        Machine x = new Machine();
        x.membrane(0, 1);
        x.membrane(1, 2);
        x.rule(0, A, 0, 0);
        x.into(0, 2, B);
        x.put(0, A);
        due("into: a grandchild is no child", 0, () -> x.uses(0, 0));
        due("into: no use", 0, x::round);
        due("into: one choice, without a use", 1, () -> x.choices(0));
        x.membrane(0, 2);
        due("into: a child", 1, () -> x.uses(0, 0));
    }

    private static void promise7Dissolve() {
        Machine x = new Machine();
        x.membrane(0, 1);
        x.membrane(1, 2);
        x.membrane(1, 3);
        x.rule(1, A, B, C);
        x.dissolve(0);
        x.into(0, 3, E);
        dueThrow("dissolve: rule -1", INDEX, () -> x.dissolve(-1));
        dueThrow("dissolve: rule 1", INDEX, () -> x.dissolve(1));
        dueThrow("dissolve: it dissolves", STATE, () -> x.dissolve(0));
        x.rule(0, D, 0, 0);
        x.divide(1, 0);
        dueThrow("dissolve: it divides", STATE, () -> x.dissolve(1));
        x.put(1, 3 * A + D);
        x.put(2, D);
        due("dissolve: once at most", 1, x::round);
        dueState("dissolve", x, "0(aabcd2(d)3(e)) outside 0,0,0,0,0");
        due("dissolve: 1 is gone", 0, () -> x.there(1) ? 1 : 0);
        due("dissolve: the parent", 0, () -> x.at(3, 6));
        x.clear(1);
        x.rule(1, A, 0, 0);
        x.dissolve(0);
        x.put(0, A);
        due("dissolve: not the skin", 0, x::round);
        dueState("dissolve: the skin stays", x, "1(a) outside 0,0,0,0,0");
    }

    private static void promise7OrderOfDissolving() {
        Machine x = new Machine();
        x.membrane(0, 1);
        x.membrane(1, 1);
        x.membrane(2, 1);
        x.membrane(3, 2);
        x.put(1, A);
        x.put(2, 2 * A);
        x.put(3, 3 * A);
        x.rule(1, A, 0, B);
        x.dissolve(0);
        due("dissolve three", 3, x::round);
        dueState("dissolve three nested", x, "0(aaabbb2()) outside 0,0,0,0,0");
        due("dissolve three: the number stays", 1, () -> x.there(4) ? 1 : 0);
        due("dissolve three: the skin's child", 0, () -> x.at(4, 6));
    }

    private static void promise7ChildrenGoToTheParent() {
        Machine x = new Machine();
        x.membrane(0, 0);
        x.membrane(1, 1);
        x.membrane(2, 2);
        x.put(2, A + B);
        x.rule(1, A, 0, 0);
        x.dissolve(0);
        due("dissolve in 1", 1, x::round);
        dueState("dissolve in 1", x, "0(0(b2())) outside 0,0,0,0,0");
        due("dissolve in 1: the child's parent", 1, () -> x.at(3, 6));
    }

    private static void promise8Divide() {
        Machine x = new Machine();
        x.membrane(0, 1);
        x.membrane(1, 2);
        x.rule(2, A, B, C);
        x.divide(0, D + E);
        dueThrow("divide: rule -1", INDEX, () -> x.divide(-1, 0));
        dueThrow("divide: rule 1", INDEX, () -> x.divide(1, 0));
        dueThrow("divide: rule before other", INDEX, () -> x.divide(1, 1024));
        dueThrow("divide: other -1", ARGUMENT, () -> x.divide(0, -1));
        dueThrow("divide: other 1024", ARGUMENT, () -> x.divide(0, 1024));
        dueThrow("divide: it divides", STATE, () -> x.divide(0, 0));
        x.rule(1, E, 0, 0);
        x.dissolve(1);
        dueThrow("divide: it dissolves", STATE, () -> x.divide(1, 0));
        x.rule(1, D, 0, 0);
        x.into(2, 2, 2 * E);
        x.rule(2, C, 3 * B, 0);
        x.put(2, 2 * A + C);
        x.put(1, D + E);
        due("divide: used", 4, x::round);
        dueState("divide, the parent dissolves behind it", x, "0(c2(abbbbee)2(abbbdeee)) outside 0,0,0,0,0");
        due("divide: the least number not there", 1, () -> x.there(3) ? 1 : 0);
        due("divide: 1 was there then", 0, () -> x.there(1) ? 1 : 0);
    }

    private static void promise8NotWithChildren() {
        Machine x = new Machine();
        x.membrane(0, 1);
        x.membrane(1, 2);
        x.put(1, A);
        x.put(0, A);
        x.rule(1, A, 0, 0);
        x.divide(0, 0);
        x.rule(0, A, 0, 0);
        x.divide(1, 0);
        due("divide: not with children", 0, () -> x.uses(1, 0));
        due("divide: not the skin", 0, () -> x.uses(0, 1));
        due("divide: none", 0, x::round);
        x.clear(0);
        x.put(0, A);
        x.rule(0, A, 0, 0);
        x.divide(0, 0);
        due("divide: not the skin without children", 0, x::round);
        x.membrane(0, 0);
        x.put(1, A);
        due("divide: another with the skin's label", 1, x::round);
        dueState("divide: it and the new one", x, "0(a0()0()) outside 0,0,0,0,0");
    }

    private static void promise8OneEndingPerMembrane() {
        Machine x = new Machine();
        x.membrane(0, 1);
        x.put(1, A + 2 * B + C);
        x.rule(1, A, 0, 0);
        x.divide(0, 0);
        x.rule(1, B, 0, 0);
        x.dissolve(1);
        x.rule(1, C, 0, 0);
        due("one ending: the first", 1, () -> x.uses(1, 0));
        due("one ending: not the second", 0, () -> x.uses(1, 1));
        due("one ending: others go on", 1, () -> x.uses(1, 2));
        due("one ending: either", 2, () -> x.choices(1));
        due("one ending: two outcomes", 2, () -> x.outcomes(1));
        x.adopt(0);
        dueState("one ending: divided", x, "0(1(bb)1(bb)) outside 0,0,0,0,0");
        x.adopt(1);
        dueState("one ending: dissolved", x, "0(ab) outside 0,0,0,0,0");
    }

    private static void promise9Round() {
        Machine x = new Machine();
        x.membrane(0, 1);
        x.rule(0, A, B, C);
        x.rule(0, B, 0, D);
        x.rule(1, A + B, 0, A);
        x.put(0, 2 * A + B);
        x.put(1, 3 * A + 2 * B);
        due("round: uses in all membranes", 5, x::round);
        dueState("round: what is made comes behind it", x, "0(aabb1(a)) outside 0,0,2,1,0");
        due("round: next", 4, x::round);
        dueState("round: next", x, "0(bb1(a)) outside 0,0,4,3,0");
        due("round: next but one", 2, x::round);
        due("round: halted", 0, x::round);
        dueState("round: halted", x, "0(1(a)) outside 0,0,4,5,0");
    }

    private static void promise9TooMuch() {
        Machine x = new Machine();
        x.rule(0, A, 3 * B, 0);
        x.put(0, 3 * A);
        x.put(0, 2 * A);
        dueThrow("round: 15 inside", STATE, x::round);
        dueState("round that throws", x, "0(aaaaa) outside 0,0,0,0,0");
        x.clear(0);
        x.rule(0, A, 3 * B, 0);
        x.put(0, 3 * A);
        x.put(0, A);
        due("round: 12 inside", 4, x::round);
        due("round: 12 are there", 12, () -> x.at(0, 1));

        for (int m = 1; m < 6; m++) {
            x.clear(0);
            for (int i = 1; i <= m; i++) {
                x.membrane(0, 1);
            }
            x.put(m, A);
            x.rule(1, A, 0, 0);
            x.divide(0, 0);
            if (m < 5) {
                due("round: a number for a new one", 1, x::round);
            } else {
                x.rule(1, B, 0, 0);
                x.dissolve(1);
                x.put(1, B);
                dueThrow("round: no number, though one dissolves", STATE, x::round);
                dueState("round: no number", x, "0(1(b)1()1()1()1(a)) outside 0,0,0,0,0");
            }
        }
    }

    /** Some 2500 of one kind come together in the skin, by every way there is; all other counts are fine. */
    private static void promise9FarTooMuch() {
        Machine x = new Machine();
        for (int m = 1; m < 6; m++) {
            x.membrane(m - 1, 0);
        }
        for (int m = 0; m < 5; m++) {
            x.fill(m);
        }
        x.put(5, A);
        x.rule(0, A, 0, 0);
        x.dissolve(0);
        for (int kind = 0; kind < 5; kind++) {
            x.rule(0, 1 << (2 * kind), 3 * A, 3 * A);
            x.into(kind + 1, 0, 3 * A);
        }
        dueThrow("round: far too much", STATE, x::round);
        due("round: far too much changes nothing", 12, () -> x.at(4, 4));
        due("round: all six are still there", 1, () -> x.there(5) ? 1 : 0);
    }

    private static void promise9OnlyTheEndCounts() {
        Machine x = new Machine();
        x.membrane(0, 1);
        for (int i = 0; i < 4; i++) {
            x.put(1, 3 * A);
        }
        x.put(0, A);
        x.rule(0, A, 0, 0);
        x.into(0, 1, 3 * A);
        x.rule(1, A, 0, 0);
        due("round: 12 go and 3 come", 13, x::round);
        dueState("round: 3 are left", x, "0(1(aaa)) outside 0,0,0,0,0");

        x.clear(0);
        x.membrane(0, 1);
        for (int i = 0; i < 4; i++) {
            x.put(0, 3 * B);
        }
        x.put(1, A + B);
        x.rule(1, A, 0, 0);
        x.dissolve(0);
        dueThrow("round: 13 by dissolving", STATE, x::round);
        x.rule(0, B, 0, A);
        due("round: 1 by dissolving", 13, x::round);
        dueState("round: only one in the end", x, "0(b) outside 12,0,0,0,0");
    }

    private static void promise10Uses() {
        Machine x = new Machine();
        x.membrane(0, 1);
        x.put(1, 3 * A + 2 * B);
        x.put(1, 2 * A);
        x.rule(1, 2 * A + B, 0, 0);
        x.rule(1, A, 0, 0);
        x.rule(1, A + B, 0, 0);
        x.rule(0, A, 0, 0);
        x.rule(1, 2 * C, 0, 0);
        due("uses: as many as can be", 2, () -> x.uses(1, 0));
        due("uses: with those before", 1, () -> x.uses(1, 1));
        due("uses: nothing left", 0, () -> x.uses(1, 2));
        due("uses: of another label", 0, () -> x.uses(1, 3));
        due("uses: too few", 0, () -> x.uses(1, 4));
        due("uses: nothing there", 0, () -> x.uses(0, 3));
        x.put(1, 3 * C);
        due("uses: as things are now", 1, () -> x.uses(1, 4));
        for (int i = 0; i < 4; i++) {
            x.put(0, 3 * A);
        }
        due("uses: 12", 12, () -> x.uses(0, 3));
        dueThrow("uses: membrane -1", INDEX, () -> x.uses(-1, 0));
        dueThrow("uses: membrane not there", INDEX, () -> x.uses(2, 0));
        dueThrow("uses: membrane 6", INDEX, () -> x.uses(6, 0));
        dueThrow("uses: rule -1", INDEX, () -> x.uses(0, -1));
        dueThrow("uses: rule 5", INDEX, () -> x.uses(0, 5));
    }

    private static void promise10OnceIsNotSpentByNoUse() {
        Machine x = new Machine();
        x.membrane(0, 1);
        x.put(1, 2 * A);
        x.rule(1, C, 0, 0);
        x.dissolve(0);
        x.rule(1, A, 0, 0);
        x.divide(1, 0);
        x.rule(1, A, 0, 0);
        x.dissolve(2);
        due("uses: cannot dissolve", 0, () -> x.uses(1, 0));
        due("uses: so it divides", 1, () -> x.uses(1, 1));
        due("uses: and dissolves no more", 0, () -> x.uses(1, 2));
    }

    private static void promise11Choices() {
        Machine x = new Machine();
        due("choices: without rules", 1, () -> x.choices(0));
        x.rule(0, A, B, 0);
        due("choices: without objects", 1, () -> x.choices(0));
        x.put(0, 3 * A);
        due("choices: one rule", 1, () -> x.choices(0));
        x.rule(0, 2 * A, C, 0);
        due("choices: 3 + 0, 1 + 1", 2, () -> x.choices(0));
        x.rule(0, 2 * A + D, 0, 0);
        due("choices: without d", 2, () -> x.choices(0));
        x.put(0, D);
        due("choices: with d", 3, () -> x.choices(0));
        due("choices: outcomes in order", 3, () -> x.outcomes(1));
        dueOutcome("choices: first", x, 0, "0:bbbd - - - - - 0,0,0,0,0");
        dueOutcome("choices: second", x, 1, "0:bcd - - - - - 0,0,0,0,0");
        dueOutcome("choices: third", x, 2, "0:b - - - - - 0,0,0,0,0");
        dueThrow("choices: -1", INDEX, () -> x.choices(-1));
        dueThrow("choices: not there", INDEX, () -> x.choices(1));
        dueThrow("choices: 6", INDEX, () -> x.choices(6));
    }

    private static void promise11Counted() {
        Machine x = new Machine();
        for (int i = 0; i < 3; i++) {
            x.rule(0, A, 0, 0);
        }
        for (int i = 0; i < 2; i++) {
            x.rule(0, B, 0, 0);
        }
        x.put(0, 3 * A);
        due("choices: 3 a to three rules", 10, () -> x.choices(0));
        x.put(0, 3 * B);
        x.put(0, 3 * B);
        x.put(0, 3 * B);
        due("choices: and 9 b to two", 100, () -> x.choices(0));
        x.put(0, 3 * A);
        x.put(0, 3 * A);
        x.put(0, 3 * A);
        due("choices: 91 * 10", 910, () -> x.choices(0));
        due("choices: 910 are no limit", 1, () -> x.outcomes(1));
        x.put(0, B);
        due("choices: 91 * 11 counts 1000", 1000, () -> x.choices(0));
        due("choices: 1001 are the limit", LIMIT, () -> x.outcomes(1));
    }

    private static void promise12At() {
        Machine x = new Machine();
        x.membrane(0, 3);
        x.membrane(1, 2);
        x.membrane(1, 0);
        x.put(1, 1 * A + 2 * B + 3 * C + 0 * D + 1 * E);
        int[] due = {1, 2, 3, 0, 1, 3, 0, 2};
        for (int what = 0; what < due.length; what++) {
            int asked = what;
            due("at(1, " + what + ")", due[what], () -> x.at(1, asked));
        }
        due("at: the skin's parent", NONE, () -> x.at(0, 6));
        due("at: the skin's children", 1, () -> x.at(0, 7));
        due("at: no children", 0, () -> x.at(3, 7));
        due("at: parent", 1, () -> x.at(3, 6));
        dueThrow("at: membrane -1", INDEX, () -> x.at(-1, 0));
        dueThrow("at: membrane not there", INDEX, () -> x.at(4, 0));
        dueThrow("at: membrane 6", INDEX, () -> x.at(6, 0));
        dueThrow("at: membrane before what", INDEX, () -> x.at(4, 8));
        dueThrow("at: what -1", ARGUMENT, () -> x.at(0, -1));
        dueThrow("at: what 8", ARGUMENT, () -> x.at(0, 8));
    }

    private static void promise13There() {
        Machine x = new Machine();
        x.membrane(0, 0);
        int[] numbers = {Integer.MIN_VALUE, -1, 0, 1, 2, 5, 6, Integer.MAX_VALUE};
        int[] due = {0, 0, 1, 1, 0, 0, 0, 0};
        for (int i = 0; i < numbers.length; i++) {
            int number = numbers[i];
            due("there(" + number + ")", due[i], () -> x.there(number) ? 1 : 0);
        }
    }

    private static void promise14Outside() {
        Machine x = new Machine();
        x.rule(0, A, A, 1 * A + 2 * B + 3 * C + 1 * E);
        x.put(0, 3 * A);
        x.round();
        x.round();
        dueState("outside", x, "0(aaa) outside 6,12,18,0,6");
        dueThrow("outside: -1", INDEX, () -> x.outside(-1));
        dueThrow("outside: 5", INDEX, () -> x.outside(5));
        for (int i = 0; i < 109; i++) {
            x.round();
        }
        due("outside: 999", 999, () -> x.outside(2));
        dueThrow("outside: more than 999", STATE, x::round);
        dueState("outside: as before", x, "0(aaa) outside 333,666,999,0,333");
        due("outside: no outcome", 0, () -> x.outcomes(1));
        due("outside: this one", 1, () -> x.outcomes(0));
    }

    private static void promise14ThousandAreTooMany() {
        Machine x = new Machine();
        x.rule(0, A, A, 3 * C);
        x.rule(0, B, 0, C);
        for (int i = 0; i < 3; i++) {
            x.put(0, 3 * A);
        }
        for (int i = 0; i < 37; i++) {
            x.round();
        }
        due("outside: 999 are fine", 999, () -> x.outside(2));
        x.into(0, 3, A);
        due("outside: the first rule rests", 0, () -> x.uses(0, 0));
        x.put(0, B);
        dueThrow("outside: 1000", STATE, x::round);
    }

    private static void promise15Outcomes() {
        Machine x = new Machine();
        x.membrane(0, 1);
        x.rule(0, A, B, 0);
        x.rule(0, A, C, 0);
        x.rule(1, A, 0, A);
        x.rule(1, A, 0, D);
        x.put(0, A);
        x.put(1, A);
        due("outcomes: of none", 1, () -> x.outcomes(0));
        dueOutcome("outcomes: of none", x, 0, "0:a 1:a - - - - 0,0,0,0,0");
        due("outcomes: of one", 4, () -> x.outcomes(1));
        String[] one = {"0:ab", "0:bd", "0:ac", "0:cd"};
        for (int i = 0; i < one.length; i++) {
            dueOutcome("outcomes: of one, the last membrane fastest", x, i, one[i] + " 1: - - - - 0,0,0,0,0");
        }
        dueState("outcomes: nothing changes", x, "0(a1(a)) outside 0,0,0,0,0");
        due("outcomes: of two", 5, () -> x.outcomes(2));
        String[] two = {"0:bb", "0:bc", "0:bd", "0:cc", "0:cd"};
        for (int i = 0; i < two.length; i++) {
            dueOutcome("outcomes: of two, halted ones stay", x, i, two[i] + " 1: - - - - 0,0,0,0,0");
        }
        due("outcomes: of three", 5, () -> x.outcomes(3));
        dueThrow("outcomes: -1", ARGUMENT, () -> x.outcomes(-1));
        dueThrow("outcomes: 4", ARGUMENT, () -> x.outcomes(4));
        dueOutcome("outcomes that throw: those found last", x, 4, "0:cd 1: - - - - 0,0,0,0,0");
    }

    private static void promise15LeavesOutTooMuch() {
        Machine x = new Machine();
        x.rule(0, A, 3 * B, 0);
        x.rule(0, A, C, 0);
        x.put(0, A + 3 * B);
        x.put(0, 3 * B);
        x.put(0, 3 * B);
        x.put(0, B);
        due("outcomes: one of two is too much", 1, () -> x.outcomes(1));
        dueOutcome("outcomes: the other", x, 0, "0:bbbbbbbbbbc - - - - - 0,0,0,0,0");
        x.rule(0, B, 3 * D, 0);
        due("outcomes: both are too much", 0, () -> x.outcomes(1));
        due("outcomes: none of none", 0, () -> x.outcomes(3));
        dueThrow("outcomes: none to ask", INDEX, () -> x.outcome(0, 0, 0));
    }

    private static void promise15Limit() {
        Machine x = new Machine();
        x.rule(0, A, 0, 0);
        x.rule(0, A, D, 0);
        x.rule(0, B, 0, 0);
        x.rule(0, B, E, 0);
        for (int i = 0; i < 3; i++) {
            x.put(0, B);
            x.put(0, 3 * A);
        }
        due("outcomes: 40", 40, () -> x.outcomes(1));
        due("outcomes: 40 of two rounds", 40, () -> x.outcomes(2));
        dueOutcome("outcomes: the last", x, 39, "0:dddddddddeee - - - - - 0,0,0,0,0");
        x.rule(0, B + C, 0, A);
        x.put(0, C);
        due("outcomes: more than 40", LIMIT, () -> x.outcomes(1));
        dueThrow("outcomes: none at the limit", INDEX, () -> x.outcome(0, 0, 0));
        dueThrow("outcomes: none to adopt at the limit", INDEX, () -> x.adopt(0));
        due("outcomes: of none is no limit", 1, () -> x.outcomes(0));
        due("outcomes: the limit of a lesser number", LIMIT, () -> x.outcomes(3));
    }

    private static void promise15OneTooMany() {
        Machine x = new Machine();
        x.rule(0, A, 0, 0);
        x.rule(0, A, B, 0);
        x.rule(0, A, C, 0);
        x.put(0, 3 * A);
        x.put(0, 3 * A);
        x.put(0, 2 * A);
        due("outcomes: 45 choices", 45, () -> x.choices(0));
        x.put(0, 3 * B + 3 * C);
        x.put(0, 2 * B + 3 * C);
        due("outcomes: 41 that are not too much", LIMIT, () -> x.outcomes(1));
        x.put(0, B);
        due("outcomes: 39 that are not too much", 39, () -> x.outcomes(1));
    }

    private static void promise15ThousandChoices() {
        Machine x = new Machine();
        x.rule(1, A, B, 0);
        x.rule(1, A, B, 0);
        for (int m = 1; m < 4; m++) {
            x.membrane(0, 1);
            for (int i = 0; i < 3; i++) {
                x.put(m, 3 * A);
            }
        }
        due("outcomes: 10 * 10 * 10 choices", 1, () -> x.outcomes(1));
        x.put(3, A);
        due("outcomes: 10 * 10 * 11 choices", LIMIT, () -> x.outcomes(1));
    }

    private static void promise15WhatIsTheSame() {
        Machine x = new Machine();
        x.rule(0, A, 0, B);
        x.rule(0, A, 0, 0);
        x.put(0, A);
        due("outcomes: another outside", 2, () -> x.outcomes(1));

        x.clear(0);
        x.rule(1, A, 0, 0);
        x.divide(0, 0);
        x.rule(2, A, 0, 0);
        x.divide(1, 0);
        x.rule(1, A, 0, 0);
        x.rule(2, A, 0, 0);
        x.membrane(0, 1);
        x.membrane(0, 2);
        x.put(1, A);
        x.put(2, A);
        due("outcomes: another label of 3", 4, () -> x.outcomes(1));
        dueOutcome("outcomes: both divide", x, 0, "0: 1: 2: 1: 2: - 0,0,0,0,0");
        dueOutcome("outcomes: 1 divides", x, 1, "0: 1: 2: 1: - - 0,0,0,0,0");
        dueOutcome("outcomes: 2 divides", x, 2, "0: 1: 2: 2: - - 0,0,0,0,0");
        dueOutcome("outcomes: none divides", x, 3, "0: 1: 2: - - - 0,0,0,0,0");

        x.clear(0);
        x.rule(3, A, 0, 0);
        x.divide(0, 0);
        x.rule(3, A, 0, 0);
        x.membrane(0, 1);
        x.membrane(0, 1);
        x.membrane(1, 3);
        x.membrane(2, 3);
        x.put(3, A);
        x.put(4, A);
        due("outcomes: another parent of 5", 3, () -> x.outcomes(1));
        x.adopt(0);
        due("outcomes: first in 1", 1, () -> x.at(5, 6));
        x.adopt(1);
        due("outcomes: then in 2", 2, () -> x.at(5, 6));
    }

    private static void promise15LimitOnTheWay() {
        Machine x = new Machine();
        for (int i = 0; i < 5; i++) {
            x.rule(0, A, B, 0);
        }
        x.rule(0, C, 3 * A, 0);
        x.put(0, 3 * C);
        x.put(0, C);
        due("outcomes: one of one round", 1, () -> x.outcomes(1));
        due("outcomes: that has too many choices", LIMIT, () -> x.outcomes(2));
        due("outcomes: for three too", LIMIT, () -> x.outcomes(3));
        dueState("outcomes: nothing changes at the limit", x, "0(cccc) outside 0,0,0,0,0");
    }

    private static void promise16Outcome() {
        Machine x = new Machine();
        x.membrane(0, 3);
        x.membrane(0, 1);
        x.put(1, A);
        x.put(2, 2 * B + E);
        x.rule(3, A, C, D);
        x.dissolve(0);
        x.rule(0, E, 0, 2 * A + 3 * D);
        x.put(0, E);
        due("outcome: one", 1, () -> x.outcomes(1));
        int[][] due = {
            {0, 0, 1, 1, 0, 0}, {NONE, NONE, NONE, NONE, NONE, NONE}, {0, 2, 0, 0, 1, 1},
            {NONE, NONE, NONE, NONE, NONE, NONE}, {NONE, NONE, NONE, NONE, NONE, NONE},
            {NONE, NONE, NONE, NONE, NONE, NONE}};
        int[] outside = {2, 0, 0, 3, 0};
        for (int m = 0; m < 6; m++) {
            int asked = m;
            for (int what = 0; what < 6; what++) {
                int w = what;
                due("outcome(0, " + m + ", " + w + ")", due[m][w], () -> x.outcome(0, asked, w));
            }
            for (int kind = 0; kind < 5; kind++) {
                int w = 6 + kind;
                due("outcome(0, " + m + ", " + w + ")", outside[kind], () -> x.outcome(0, asked, w));
            }
        }
        dueThrow("outcome: -1", INDEX, () -> x.outcome(-1, 0, 0));
        dueThrow("outcome: 1", INDEX, () -> x.outcome(1, 0, 0));
        dueThrow("outcome: membrane -1", INDEX, () -> x.outcome(0, -1, 0));
        dueThrow("outcome: membrane 6", INDEX, () -> x.outcome(0, 6, 0));
        dueThrow("outcome: membrane before what", INDEX, () -> x.outcome(0, 6, 11));
        dueThrow("outcome: what -1", ARGUMENT, () -> x.outcome(0, 0, -1));
        dueThrow("outcome: what 11", ARGUMENT, () -> x.outcome(0, 0, 11));
        dueThrow("outcome: what 11, membrane not there", ARGUMENT, () -> x.outcome(0, 4, 11));
        x.round();
        x.put(0, A);
        due("outcome: those found last stay", 0, () -> x.outcome(0, 0, 0));
        x.clear(0);
        dueThrow("outcome: none from clear on", INDEX, () -> x.outcome(0, 0, 0));
    }

    private static void promise17Adopt() {
        Machine x = new Machine();
        x.membrane(0, 1);
        x.membrane(1, 2);
        x.put(1, A);
        x.rule(1, A, 0, B);
        x.dissolve(0);
        x.rule(1, A, C, D);
        x.rule(0, B + D, 0, E);
        due("adopt: two", 2, () -> x.outcomes(1));
        dueThrow("adopt: -1", INDEX, () -> x.adopt(-1));
        dueThrow("adopt: 2", INDEX, () -> x.adopt(2));
        dueState("adopt that throws", x, "0(1(a2())) outside 0,0,0,0,0");
        x.adopt(0);
        dueState("adopt 0", x, "0(b2()) outside 0,0,0,0,0");
        due("adopt 0: parent", 0, () -> x.at(2, 6));
        x.put(0, D);
        due("adopt 0: the rules stay", 1, x::round);
        dueState("adopt 0: goes on", x, "0(2()) outside 0,0,0,0,1");
        dueOutcome("adopt 0: the outcome is as it was", x, 0, "0:b - 2: - - - 0,0,0,0,0");
        x.adopt(1);
        dueState("adopt 1", x, "0(d1(c2())) outside 0,0,0,0,0");
        due("adopt 1: parent", 1, () -> x.at(2, 6));
    }

    private static void promise18Written() {
        Machine x = new Machine();
        x.clear(2);
        x.membrane(0, 1);
        x.membrane(0, 3);
        x.membrane(1, 0);
        x.put(0, 2 * A + E);
        x.put(1, B + D);
        x.put(2, C);
        x.put(3, 3 * E);
        String due = "2(aae1(bd0(eee))3(c))";
        for (int i = 0; i < due.length(); i++) {
            int at = i;
            due("written(" + i + ")", due.charAt(i), () -> x.written(at));
        }
        for (int i : new int[] {-1, due.length(), Integer.MIN_VALUE, Integer.MAX_VALUE}) {
            due("written(" + i + ")", NONE, () -> x.written(i));
        }
    }

    private static void promise18FullOnes() {
        Machine x = new Machine();
        StringBuilder due = new StringBuilder();
        for (int m = 0; m < 6; m++) {
            if (m > 0) {
                x.membrane(m - 1, 3);
            }
            x.fill(m);
            due.append(m == 0 ? 0 : 3).append("(aaaaaaaaaaaabbbbbbbbbbbb");
            due.append("ccccccccccccddddddddddddeeeeeeeeeeee");
        }
        dueState("written: six full ones, nested", x, due + ")))))) outside 0,0,0,0,0");
    }
}
