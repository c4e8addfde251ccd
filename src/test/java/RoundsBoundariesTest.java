/**
 * The sentences on a round, on what is divided and dissolved, on too much and on halted: each at its boundary
 * and on either side of it.
 */
public final class RoundsBoundariesTest extends Checks {
    private static final String NOTHING = " outside 0,0,0,0,0";

    /** The ways by which objects come into a membrane in a round. */
    private enum Way { HERE, OUT, INTO, DISSOLVED, DIVIDED, OTHER }

    public static void main(String[] args) {
        sentence("too much: more than 12 objects of a kind in a membrane", RoundsBoundariesTest::twelve);
        sentence("too much: in the end", RoundsBoundariesTest::onlyInTheEnd);
        sentence("too much: by however many", RoundsBoundariesTest::howeverMany);
        sentence("too much: more than 999 outside", RoundsBoundariesTest::outsideOfEachKind);
        sentence("0 .. 999 outside of each kind", RoundsBoundariesTest::outsideOfAllKinds);
        sentence("too much: there is no number for a new membrane", RoundsBoundariesTest::noNumber);
        sentence("no number is free of one that dissolves in the same round", RoundsBoundariesTest::noNumberYet);
        sentence("all that they take goes; then all that they make comes", RoundsBoundariesTest::behindTheRound);
        sentence("into the child with that label that has the least number", RoundsBoundariesTest::leastChild);
        sentence("out: to the parent (the skin: outside)", RoundsBoundariesTest::out);
        sentence("here (but for a use that divides)", RoundsBoundariesTest::hereOfADivision);
        sentence("a new membrane, with the same label, parent and objects", RoundsBoundariesTest::sameObjects);
        sentence("each membrane that is divided, by number, the least number that is not there",
                RoundsBoundariesTest::dividedByNumber);
        sentence("a divided membrane in one that dissolves", RoundsBoundariesTest::dividedThenDissolved);
        sentence("each that is dissolved, by number: its objects come to its parent", RoundsBoundariesTest::dissolved);
        sentence("its children are its parent's, it is there no more", RoundsBoundariesTest::childrenOfDissolved);
        sentence("halted: no rule is used in the machine's choices", RoundsBoundariesTest::halted);
        sentence("round: answers how many rules were used", RoundsBoundariesTest::used);
        end();
    }

    private static void twelve() {
        for (Way way : Way.values()) {
            for (int kind = 0; kind < 5; kind++) {
                for (int before = 8; before <= 11; before++) {
                    threeMore(way, kind, before);
                }
            }
        }
    }

    /** Three come to so many that were there. */
    private static void threeMore(Way way, int kind, int before) {
        String name = way + ", kind " + kind + ", " + before + " + 3";
        boolean fine = before + 3 <= 12;
        Machine x = madeFor(way, kind, before);
        int outcomes = fine ? 1 : 0;
        due(name + ", outcomes", outcomes, () -> x.outcomes(1));
        Machine y = madeFor(way, kind, before);
        String state = y.state();
        dueThrow(name, fine ? null : STATE, y::round);
        if (fine) {
            int target = way == Way.INTO || way == Way.DIVIDED ? 1 : way == Way.OTHER ? 2 : 0;
            int after = before + 3;
            due(name, after, () -> y.at(target, kind));
            due(name + ", the same outcome", after, () -> x.outcome(0, target, kind));
        } else {
            dueState(name + ", nothing changes", y, state);
        }
    }

    private static Machine madeFor(Way way, int kind, int before) {
        int one = 1 << (2 * kind);
        int start = 1 << (2 * ((kind + 1) % 5));
        Machine x = new Machine();
        x.membrane(0, 1);
        switch (way) {
            case HERE:
                x.putMany(0, one, before);
                x.put(0, start);
                x.rule(0, start, 3 * one, 0);
                break;
            case OUT:
                x.putMany(0, one, before);
                x.put(1, start);
                x.rule(1, start, 0, 3 * one);
                break;
            case INTO:
                x.putMany(1, one, before);
                x.put(0, start);
                x.rule(0, start, 0, 0);
                x.into(0, 1, 3 * one);
                break;
            case DISSOLVED:
                x.putMany(0, one, before);
                x.put(1, start + 3 * one);
                x.rule(1, start, 0, 0);
                x.dissolve(0);
                break;
            case DIVIDED:
                x.putMany(1, one, before);
                x.put(1, start);
                x.rule(1, start, 3 * one, 0);
                x.divide(0, 0);
                break;
            default:
                x.putMany(1, one, before);
                x.put(1, start);
                x.rule(1, start, 0, 0);
                x.divide(0, 3 * one);
                break;
        }
        return x;
    }

    private static void onlyInTheEnd() {
        Machine x = new Machine();
        x.putMany(0, A, 12);
        x.rule(0, A, B, 0);
        x.rule(0, B, A, 0);
        due("12 go and 12 come", 12, x::round);
        x.putMany(0, A, 12);
        due("12 and 12 change places", 24, x::round);
        dueState("12 and 12", x, "0(aaaaaaaaaaaabbbbbbbbbbbb)" + NOTHING);

        Machine y = new Machine();
        y.membrane(0, 1);
        y.put(0, A);
        y.rule(0, A, 0, 0);
        y.into(0, 1, 3 * C);
        y.putMany(1, C, 12);
        y.rule(1, 2 * C, C, 0);
        due("12 go, 6 and 3 come", 7, y::round);
        due("9 in the end", 9, () -> y.at(1, 2));

        Machine z = new Machine();
        z.membrane(0, 1);
        z.putMany(0, B, 12);
        z.putMany(1, B, 12);
        z.put(1, A);
        z.rule(1, A, 0, 0);
        z.dissolve(0);
        dueThrow("24 in the skin", STATE, z::round);
        z.rule(0, B, 0, 0);
        due("12 go from the skin, 12 come by dissolving", 13, z::round);
        dueState("12", z, "0(bbbbbbbbbbbb)" + NOTHING);
    }

    /** So many come out of five membranes that any few bits would hold 12 or less of them. */
    private static void howeverMany() {
        int[] counts = {12, 13, 15, 16, 17, 31, 32, 33, 63, 64, 65, 127, 128, 129, 255, 256, 257, 511, 512, 513, 900};
        for (int count : counts) {
            Machine x = new Machine();
            for (int kind = 0; kind < 5; kind++) {
                x.rule(1, 1 << (2 * kind), 0, 3 * B);
            }
            x.rule(0, A, B, 0);
            x.putMany(0, A, count % 3);
            int threes = count / 3;
            for (int m = 1; m < 6; m++) {
                x.membrane(0, 1);
                for (int kind = 0; kind < 5; kind++) {
                    int put = Math.min(threes, 12);
                    x.putMany(m, 1 << (2 * kind), put);
                    threes -= put;
                }
            }
            due(count + " of a kind, outcomes", count == 12 ? 1 : 0, () -> x.outcomes(1));
            dueThrow(count + " of a kind", count == 12 ? null : STATE, x::round);
            int now = count == 12 ? 12 : 0;
            due(count + " of a kind, behind it", now, () -> x.at(0, 1));
        }
    }

    private static void outsideOfEachKind() {
        for (int kind = 0; kind < 5; kind++) {
            int asked = kind;
            int one = 1 << (2 * kind);
            Machine x = new Machine();
            x.rule(0, A, A, 3 * one);
            x.rule(0, B, 0, one);
            x.putMany(0, A, 9);
            for (int i = 0; i < 36; i++) {
                x.round();
            }
            due("972", 972, () -> x.outside(asked));
            x.put(0, B);
            dueThrow("28 more", STATE, x::round);
            due("still 972", 972, () -> x.outside(asked));
            due("no outcome", 0, () -> x.outcomes(1));
            x.rule(0, C, 0, 0);
            x.into(0, 3, A);
            due("1 more, the first rule has no child", 1, x::round);
            x.put(0, 3 * B);
            due("3 more", 3, x::round);
            x.putMany(0, B, 12);
            due("12 more", 12, x::round);
            x.put(0, 3 * B);
            x.putMany(0, B, 7);
            due("10 more", 10, x::round);
            due("998", 998, () -> x.outside(asked));
            x.put(0, B);
            due("one outcome", 1, () -> x.outcomes(1));
            due("of 999", 999, () -> x.outcome(0, 0, 6 + asked));
            due("1 more", 1, x::round);
            due("999", 999, () -> x.outside(asked));
            x.put(0, C);
            due("999 stay", 1, x::round);
            x.put(0, B);
            due("no outcome", 0, () -> x.outcomes(1));
            dueThrow("1000", STATE, x::round);
            due("999 as before", 999, () -> x.outside(asked));
            for (int other = 0; other < 5; other++) {
                int beside = other;
                due("of others none", beside == asked ? 999 : 0, () -> x.outside(beside));
            }
        }
    }

    private static void outsideOfAllKinds() {
        Machine x = new Machine();
        x.rule(0, A, A, 1023);
        x.putMany(0, A, 9);
        dueState("none at first", x, "0(aaaaaaaaa) outside 0,0,0,0,0");
        for (int i = 0; i < 37; i++) {
            x.round();
        }
        dueState("999 of each", x, "0(aaaaaaaaa) outside 999,999,999,999,999");
        dueThrow("more of each", STATE, x::round);
        dueState("999 of each as before", x, "0(aaaaaaaaa) outside 999,999,999,999,999");
    }

    /** Of so many membranes the last ones divide. */
    private static Machine withDividing(int membranes, int dividing) {
        Machine x = new Machine();
        for (int m = 1; m < membranes; m++) {
            x.membrane(0, 1);
            if (m >= membranes - dividing) {
                x.put(m, A);
            }
        }
        x.rule(1, A, B, 0);
        x.divide(0, C);
        return x;
    }

    private static void noNumber() {
        for (int membranes = 2; membranes <= 6; membranes++) {
            for (int dividing = 1; dividing < membranes; dividing++) {
                String name = dividing + " of " + membranes + " divide";
                boolean fine = membranes + dividing <= 6;
                Machine x = withDividing(membranes, dividing);
                String state = x.state();
                due(name + ", outcomes", fine ? 1 : 0, () -> x.outcomes(1));
                dueThrow(name, fine ? null : STATE, x::round);
                if (fine) {
                    compare(name, "012345".substring(0, membranes + dividing), x.numbers());
                } else {
                    dueState(name + ", nothing changes", x, state);
                }
            }
        }
    }

    private static void noNumberYet() {
        Machine x = withDividing(6, 1);
        x.rule(1, D, 0, 0);
        x.dissolve(1);
        x.put(1, D);
        dueThrow("1 dissolves behind the division", STATE, x::round);
        dueState("both are as they were", x, "0(1(d)1()1()1()1(a))" + NOTHING);
        Machine y = withDividing(5, 1);
        y.rule(1, D, 0, 0);
        y.dissolve(1);
        y.put(1, D);
        due("one number is free", 2, y::round);
        compare("that is taken, 1 is free then", "02345", y.numbers());
        dueState("the new one is 5", y, "0(1()1()1(b)1(c))" + NOTHING);
    }

    private static void behindTheRound() {
        Machine x = new Machine();
        x.membrane(0, 1);
        x.membrane(1, 2);
        x.rule(0, A, B, 0);
        x.into(0, 1, B);
        x.rule(0, B, C, 0);
        x.rule(1, B, D, A);
        x.rule(2, A, 0, B);
        x.put(0, A);
        x.put(2, A);
        due("only what is there", 2, x::round);
        dueState("one step", x, "0(b1(bb2()))" + NOTHING);
        due("then what was made", 3, x::round);
        dueState("two steps", x, "0(aac1(dd2()))" + NOTHING);
    }

    private static void leastChild() {
        Machine x = new Machine();
        x.membrane(0, 2);
        x.membrane(0, 1);
        x.membrane(2, 1);
        x.membrane(0, 1);
        x.rule(0, A, 0, 0);
        x.into(0, 1, B);
        x.put(0, 2 * A);
        due("used", 2, x::round);
        dueState("all into 2", x, "0(2()1(bb1())1())" + NOTHING);
        x.put(1, D);
        x.rule(2, D, 0, 0);
        x.dissolve(1);
        x.round();
        x.membrane(0, 1);
        x.put(0, A);
        x.round();
        compare("1 is there again, and is the least", "0(1(b)1(bb1())1())", x.writing());
    }

    private static void out() {
        Machine x = new Machine();
        for (int m = 1; m < 6; m++) {
            x.membrane(m - 1, 0);
        }
        x.rule(0, A, 0, A);
        x.put(5, A);
        for (int m = 4; m >= 0; m--) {
            int parent = m;
            due("one step", 1, x::round);
            due("in its parent", 1, () -> x.at(parent, 0));
        }
        due("nothing is outside", 0, () -> x.outside(0));
        due("out of the skin", 1, x::round);
        due("it is outside", 1, () -> x.outside(0));
        due("nothing comes back", 0, x::round);
    }

    private static void hereOfADivision() {
        Machine x = new Machine();
        x.membrane(0, 1);
        x.rule(1, A, B, C);
        x.divide(0, D);
        x.rule(1, A, E, 0);
        x.put(1, 3 * A);
        due("one divides, two do not", 3, x::round);
        dueState("here for the first, other for the new one", x, "0(c1(bee)1(dee))" + NOTHING);
        Machine y = new Machine();
        y.membrane(0, 1);
        y.rule(1, A, 0, 0);
        y.divide(0, 0);
        y.put(1, A);
        due("nothing here, nothing other", 1, y::round);
        dueState("two empty ones", y, "0(1()1())" + NOTHING);
        Machine z = new Machine();
        z.membrane(0, 1);
        z.rule(1, A, B, 0);
        z.dissolve(0);
        z.put(1, A);
        due("one that dissolves has here", 1, z::round);
        dueState("in the parent", z, "0(b)" + NOTHING);
    }

    private static void sameObjects() {
        Machine x = new Machine();
        x.membrane(0, 3);
        x.membrane(1, 2);
        x.rule(2, A, 0, B);
        x.divide(0, 0);
        x.rule(3, A, 0, 0);
        x.into(1, 2, E);
        x.put(1, A);
        x.put(2, A + 3 * C);
        due("used", 2, x::round);
        dueState("what came into it is in both, what went out came once", x, "0(3(b2(ccce)2(ccce)))" + NOTHING);
        due("the same label", 2, () -> x.at(3, 5));
        due("the same parent", 1, () -> x.at(3, 6));
    }

    private static void dividedByNumber() {
        Machine x = new Machine();
        for (int m = 1; m < 5; m++) {
            x.membrane(0, m == 1 ? 2 : 1);
        }
        x.put(1, A);
        x.rule(2, A, 0, 0);
        x.dissolve(0);
        x.round();
        compare("1 is free", "0234", x.numbers());
        x.rule(1, B, A, 0);
        x.divide(1, C);
        x.put(2, B + D);
        x.put(4, B + 2 * D);
        due("two divide", 2, x::round);
        compare("all six", "012345", x.numbers());
        dueState("2 gives 1, then 4 gives 5", x, "0(1(cd)1(ad)1()1(add)1(cdd))" + NOTHING);
        Machine y = new Machine();
        y.membrane(0, 1);
        y.membrane(0, 1);
        y.rule(1, A, 0, 0);
        y.divide(0, A);
        y.put(1, 2 * A);
        due("a new one is not divided in the same round", 1, y::round);
        dueState("the new one is 3", y, "0(1(a)1()1(aa))" + NOTHING);
        due("but in the next", 2, y::round);
        dueState("1 gives 4, 3 gives 5", y, "0(1()1()1(a)1(a)1(aa))" + NOTHING);
    }

    private static void dividedThenDissolved() {
        Machine x = new Machine();
        x.membrane(0, 1);
        x.membrane(1, 2);
        x.rule(1, A, 0, 0);
        x.dissolve(0);
        x.rule(2, A, B, C);
        x.divide(1, D);
        x.put(1, A);
        x.put(2, A);
        due("both", 2, x::round);
        dueState("both are the skin's", x, "0(c2(b)2(d))" + NOTHING);
        compare("1 is gone, the new one is 3", "023", x.numbers());
        due("the first one's parent", 0, () -> x.at(2, 6));
        due("the new one's parent", 0, () -> x.at(3, 6));
    }

    private static void dissolved() {
        Machine x = new Machine();
        for (int m = 1; m < 6; m++) {
            x.membrane(m - 1, 1);
            x.put(m, A + (m % 2 == 0 ? 2 * C : D));
        }
        x.rule(1, A, B, E);
        x.dissolve(0);
        due("five, each in the one before", 5, x::round);
        dueState("all comes to the skin", x, "0(bbbbbccccdddeeeee)" + NOTHING);

        Machine y = new Machine();
        y.membrane(0, 2);
        y.membrane(0, 1);
        y.put(1, A);
        y.rule(2, A, 0, 0);
        y.dissolve(0);
        y.round();
        y.membrane(2, 1);
        y.rule(1, A, B, C);
        y.dissolve(1);
        y.put(1, A + D);
        y.put(2, A);
        due("1 in 2, both", 2, y::round);
        dueState("1 to 2, then 2 to the skin", y, "0(bbccd)" + NOTHING);
        compare("both are gone", "0", y.numbers());

        Machine z = new Machine();
        z.membrane(0, 1);
        z.membrane(1, 2);
        z.put(1, A);
        z.put(2, A + 2 * B);
        z.rule(2, A, 0, 0);
        z.dissolve(0);
        z.rule(1, A, 0, 0);
        z.into(1, 2, 3 * E);
        due("into one that dissolves", 2, z::round);
        dueState("comes to its parent, not to the skin", z, "0(1(bbeee))" + NOTHING);
    }

    private static void childrenOfDissolved() {
        Machine x = new Machine();
        x.membrane(0, 0);
        x.membrane(1, 1);
        x.membrane(2, 2);
        x.membrane(2, 3);
        x.membrane(3, 3);
        x.put(2, A + B);
        x.put(5, C);
        x.rule(1, A, 0, 0);
        x.dissolve(0);
        due("2 dissolves", 1, x::round);
        dueState("its children are in 1", x, "0(0(b2(3(c))3()))" + NOTHING);
        compare("2 is there no more", "01345", x.numbers());
        dueThrow("2 cannot be asked", INDEX, () -> x.at(2, 0));
        dueThrow("nor given", INDEX, () -> x.put(2, A));
        dueThrow("nor be a parent", INDEX, () -> x.membrane(2, 0));
        due("the parent of 3", 1, () -> x.at(3, 6));
        due("the parent of 4", 1, () -> x.at(4, 6));
        due("the parent of 5 as before", 3, () -> x.at(5, 6));
        due("the children of 1", 2, () -> x.at(1, 7));
    }

    private static void halted() {
        Machine x = new Machine();
        x.membrane(0, 1);
        x.rule(0, 2 * A, B, 0);
        x.rule(1, A, 0, 0);
        x.into(1, 0, A);
        x.rule(0, A, 0, 0);
        x.dissolve(2);
        x.put(0, A);
        x.put(1, A);
        String state = x.state();
        for (int rounds = 0; rounds < 4; rounds++) {
            int asked = rounds;
            due("a halted one's outcomes", 1, () -> x.outcomes(asked));
            dueOutcome("a halted one stays", x, 0, "0:a 1:a - - - - 0,0,0,0,0");
            due("no rule is used", 0, x::round);
            dueState("as it was", x, state);
        }
        x.put(0, A);
        due("one more and it goes on", 1, x::round);
        dueState("it goes on", x, "0(b1(a))" + NOTHING);
    }

    private static void used() {
        Machine x = new Machine();
        for (int m = 0; m < 6; m++) {
            if (m > 0) {
                x.membrane(0, 0);
            }
            x.fill(m);
        }
        for (int kind = 0; kind < 5; kind++) {
            x.rule(0, 1 << (2 * kind), 0, 0);
        }
        due("60 uses in each of six", 360, x::round);
        due("none then", 0, x::round);
        dueState("nothing is left", x, "0(0()0()0()0()0())" + NOTHING);
    }
}
