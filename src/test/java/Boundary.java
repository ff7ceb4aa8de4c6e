import java.util.function.Supplier;
import java.util.function.ToLongFunction;

/** What the tests of boundary cases share: wrong numbers, and a look at all that a table answers. */
final class Boundary {
    /** Times eight, 1 << 29 wraps round to 0: an index made before the check would be a good one. */
    private static final int WRAPS = 1 << 29;

    static final int[] CLASS_TOO_SMALL = {-1, -2, -3, -8, -10, -256, -WRAPS, Integer.MIN_VALUE};
    static final int[] PARENT_TOO_SMALL = {-2, -3, -8, -10, -256, -WRAPS, Integer.MIN_VALUE};
    static final int[] CLASS_PAST_TEN = {10, 11, 16, 31, 32, 80, 256, 65536, WRAPS, WRAPS + 1, Integer.MAX_VALUE};
    static final int[] SELECTOR_TOO_SMALL = {-1, -2, -7, -8, -32, -256, Integer.MIN_VALUE};
    static final int[] SELECTOR_TOO_LARGE = {8, 9, 10, 15, 16, 31, 32, 39, 80, 256, 65536, Integer.MAX_VALUE};
    static final int[] METHOD_TOO_SMALL = {0, -1, -2, -1000, -65535, Integer.MIN_VALUE, Integer.MIN_VALUE + 1};
    static final int[] METHOD_TOO_LARGE = {1001, 1002, 1024, 32768, 65537, Integer.MAX_VALUE};

    private Boundary() {
    }

    /** The numbers that are too large for a class when there are n of them. */
    static int[] classTooLarge(int n) {
        int[] large = new int[10 - n + CLASS_PAST_TEN.length];
        for (int i = 0; i < large.length; i++) {
            large[i] = n + i < 10 ? n + i : CLASS_PAST_TEN[i - (10 - n)];
        }
        return large;
    }

    /** Every answer that the table can give: 11 + 34n calls for n classes. */
    static String view(SendTable x) {
        StringBuilder text = new StringBuilder();
        int n = x.classes();
        text.append(n).append(" classes, crowd ").append(x.crowd()).append(", colours ").append(x.colours());
        for (int s = 0; s < 8; s++) {
            text.append(", apart ").append(x.apart(s));
        }
        for (int c = 0; c < n; c++) {
            text.append("; ").append(c).append(" under ").append(x.parent(c)).append(':').append(x.understands(c));
            for (int s = 0; s < 8; s++) {
                text.append(' ').append(x.send(c, s)).append('/').append(x.sendSuper(c, s));
                text.append('/').append(x.owner(c, s)).append('/').append(x.heirs(c, s));
            }
        }
        return text.toString();
    }

    /** The call answers what is due, and no later call of any kind shows that it was made. */
    static void changesNothing(String what, Supplier<SendTable> made, ToLongFunction<SendTable> call, long due) {
        SendTable asked = made.get();
        Due.is(what, call.applyAsLong(asked), due);
        Due.is("after " + what, view(asked), view(made.get()));
        // What a call left behind for a class that is not there yet shows only once the class is added.
        SendTable grown = made.get();
        call.applyAsLong(grown);
        Due.is("after " + what + " and ten classes", view(filled(grown)), view(filled(made.get())));
    }

    /** The same for a call whose answer is true or false. */
    static void refuses(String what, Supplier<SendTable> made, ToBoolean call) {
        changesNothing(what, made, x -> call.on(x) ? 1 : 0, 0);
    }

    interface ToBoolean {
        boolean on(SendTable x);
    }

    /** Adds roots until ten classes are there. */
    static SendTable filled(SendTable x) {
        for (int c = x.classes(); c < 10; c++) {
            Due.is("addClass(NONE) as class " + c, x.addClass(SendTable.NONE), c);
        }
        return x;
    }

    /** Five classes, 3 under 1 under 0 and 2 under 0 and 4 alone, with the first and last selectors defined. */
    static SendTable five() {
        SendTable x = Due.tree(SendTable.NONE, 0, 0, 1, SendTable.NONE);
        x.define(0, 0, 1);
        x.define(0, 7, 1000);
        x.define(1, 0, 10);
        x.define(3, 7, 37);
        x.define(4, 3, 43);
        x.define(4, 7, 47);
        return x;
    }

    /** Ten classes, each under the one before, with methods at both ends. */
    static SendTable chain() {
        SendTable x = Due.tree(SendTable.NONE, 0, 1, 2, 3, 4, 5, 6, 7, 8);
        x.define(0, 0, 1);
        x.define(0, 7, 1000);
        x.define(9, 0, 90);
        x.define(9, 6, 96);
        return x;
    }

    /** Five classes in a row that understand nothing. */
    static SendTable bare() {
        return Due.tree(SendTable.NONE, 0, 1, 2, 3);
    }
}
