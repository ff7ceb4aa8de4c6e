/** Counts and prints the answers that are not as due, for all tests of the project. */
final class Due {
    /** Whole numbers that are never a class, a selector or a method. */
    static final int[] NEVER = {-3, -2, Integer.MIN_VALUE, Integer.MIN_VALUE + 1, Integer.MAX_VALUE, 1 << 16, 1001};

    private static int wrong = 0;
    private static String about = "";

    private Due() {
    }

    /** Runs a test under a name that stands before each of its wrong answers. */
    static void test(String name, Runnable test) {
        about = name + " | ";
        try {
            test.run();
        } catch (RuntimeException | StackOverflowError thrown) {
            // No call may throw; the tests after this one are to be run all the same.
            wrong++;
            System.out.println(about + "threw " + thrown);
        }
        about = "";
    }

    static void is(String what, long got, long want) {
        if (got != want) {
            wrong++;
            System.out.println(about + what + " answered " + got + ", due is " + want);
        }
    }

    static void is(String what, boolean got, boolean want) {
        is(what, got ? 1 : 0, want ? 1 : 0);
    }

    static void is(String what, String got, String want) {
        if (!got.equals(want)) {
            wrong++;
            System.out.println(about + what + ": got " + got + ", due is " + want);
        }
    }

    /** The tree and every understood method: 1 + 9n calls for n classes. */
    static String state(SendTable x) {
        StringBuilder text = new StringBuilder();
        int n = x.classes();
        for (int c = 0; c < n; c++) {
            text.append(c).append(" under ").append(x.parent(c)).append(':');
            for (int s = 0; s < 8; s++) {
                text.append(' ').append(x.send(c, s));
            }
            text.append("; ");
        }
        return text.toString();
    }

    /** A table with a class for each of the parents, in order. */
    static SendTable tree(int... parents) {
        SendTable x = new SendTable();
        for (int c = 0; c < parents.length; c++) {
            is("addClass(" + parents[c] + ")", x.addClass(parents[c]), c);
        }
        return x;
    }

    /** A table with a root for each set, which defines just the selectors of the set. */
    static SendTable roots(int... sets) {
        SendTable x = new SendTable();
        for (int c = 0; c < sets.length; c++) {
            is("addClass(NONE)", x.addClass(SendTable.NONE), c);
            for (int s = 0; s < 8; s++) {
                if ((sets[c] >> s & 1) != 0) {
                    is("define(" + c + ", " + s + ")", x.define(c, s, 1 + c), true);
                }
            }
        }
        return x;
    }

    static void end() {
        System.out.println(wrong == 0 ? "all answers are as due" : wrong + " answers are not as due");
        if (wrong != 0) {
            System.exit(1);
        }
    }
}
