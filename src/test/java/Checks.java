/** What the tests by the document's sentences have in common. */
abstract class Checks {
    static final int A = 1;
    static final int B = 4;
    static final int C = 16;
    static final int D = 64;
    static final int E = 256;
    static final int NONE = MembraneRounds.NONE;
    static final int LIMIT = MembraneRounds.LIMIT;
    static final Class<?> INDEX = IndexOutOfBoundsException.class;
    static final Class<?> ARGUMENT = IllegalArgumentException.class;
    static final Class<?> STATE = IllegalStateException.class;

    private static int asked = 0;
    private static int wrong = 0;

    interface Call {
        long answer();
    }

    static void due(String call, long want, Call made) {
        String got;
        try {
            got = "" + made.answer();
        } catch (RuntimeException e) {
            got = "throws " + e.getClass().getSimpleName();
        }
        compare(call, "" + want, got);
    }

    /** Nothing is to be thrown when no exception is given. */
    static void dueThrow(String call, Class<?> want, Runnable made) {
        compare(call, told(want), told(thrownBy(made)));
    }

    static void dueState(String when, Machine x, String want) {
        compare(when, want, x.state());
    }

    static void dueOutcome(String when, Machine x, int i, String want) {
        compare(when + ", outcome " + i, want, x.listed(i));
    }

    /** The class itself, since one that extends it would be another. */
    static Class<?> thrownBy(Runnable made) {
        try {
            made.run();
        } catch (RuntimeException e) {
            return e.getClass();
        }
        return null;
    }

    static String told(Class<?> thrown) {
        return thrown == null ? "throws nothing" : "throws " + thrown.getSimpleName();
    }

    static void compare(String what, String want, String got) {
        asked++;
        if (!got.equals(want)) {
            wrong++;
            System.out.println(what + ": " + got + ", due is " + want);
        }
    }

    /** Five rules of the skin, with 999 ways to choose from 12 b and 10 c. */
    static Machine with999Choices() {
        Machine x = new Machine();
        for (int left : new int[] {B + C, B + C, B, B, 2 * B}) {
            x.rule(0, left, 0, 0);
        }
        x.putMany(0, B, 12);
        x.putMany(0, C, 10);
        return x;
    }

    /** A test of one sentence; what goes wrong in it does not stop the others. */
    static void sentence(String words, Runnable test) {
        int before = wrong;
        try {
            test.run();
        } catch (RuntimeException e) {
            wrong++;
            System.out.println("a call throws " + e + " at " + e.getStackTrace()[0]);
        }
        if (wrong > before) {
            System.out.println("    so this does not hold: " + words);
        }
    }

    static void end() {
        System.out.println(asked + " answers, " + wrong + " of them wrong");
        System.exit(wrong == 0 ? 0 : 1);
    }
}
