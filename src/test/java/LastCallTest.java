import java.util.function.ToLongFunction;

/** An object is used for 512 calls: whatever they are and whatever the last is, it answers as due. */
public final class LastCallTest {
    private static final int CALLS = 512;

    public static void main(String[] args) {
        last("addClass(4)", x -> x.addClass(4), 5);
        last("addClass(5)", x -> x.addClass(5), SendTable.NONE);
        last("define(4, 0, 1000)", x -> x.define(4, 0, 1000) ? 1 : 0, 1);
        last("define(4, 0, 1001)", x -> x.define(4, 0, 1001) ? 1 : 0, 0);
        last("drop(4, 7)", x -> x.drop(4, 7) ? 1 : 0, 1);
        last("drop(4, 0)", x -> x.drop(4, 0) ? 1 : 0, 0);
        last("move(0, 4)", x -> x.move(0, 4) ? 1 : 0, 1);
        last("move(0, 3)", x -> x.move(0, 3) ? 1 : 0, 0);
        last("classes()", SendTable::classes, 5);
        last("parent(3)", x -> x.parent(3), 1);
        last("send(3, 0)", x -> x.send(3, 0), 10);
        last("sendSuper(1, 0)", x -> x.sendSuper(1, 0), 1);
        last("owner(3, 0)", x -> x.owner(3, 0), 1);
        last("understands(3)", x -> x.understands(3), 0b10000001);
        last("heirs(0, 7)", x -> x.heirs(0, 7), 0b00111);
        last("apart(7)", x -> x.apart(7), 0b01110110);
        last("crowd()", SendTable::crowd, 2);
        last("colours()", SendTable::colours, 2);
        fullLast();
        defineThroughout();
        dropThroughout();
        moveThroughout();
        askedThroughout();
        Due.end();
    }

    private static void last(String what, ToLongFunction<SendTable> call, long due) {
        // Making the table took five classes and six methods; 500 calls that end where they began follow.
        SendTable x = Boundary.five();
        for (int used = 11; used < CALLS - 1; used += 4) {
            Due.is("move(3, 4)", x.move(3, 4), true);
            Due.is("move(3, 1)", x.move(3, 1), true);
            Due.is("define(2, 2, 22)", x.define(2, 2, 22), true);
            Due.is("drop(2, 2)", x.drop(2, 2), true);
        }
        Due.is("as the last call, " + what, call.applyAsLong(x), due);
    }

    private static void fullLast() {
        SendTable x = Boundary.filled(new SendTable());
        for (int used = 10; used < CALLS - 1; used++) {
            Due.is("addClass(NONE)", x.addClass(SendTable.NONE), SendTable.FULL);
        }
        Due.is("as the last call, classes()", x.classes(), 10);
    }

    private static void defineThroughout() {
        SendTable x = Due.tree(SendTable.NONE);
        int m = 0;
        for (int used = 1; used < CALLS - 1; used++) {
            m = 1 + used % 1000;
            Due.is("define(0, 3, " + m + ")", x.define(0, 3, m), true);
        }
        Due.is("after defining throughout, send(0, 3)", x.send(0, 3), m);
    }

    private static void dropThroughout() {
        SendTable x = Due.tree(SendTable.NONE);
        for (int used = 1; used < CALLS - 1; used += 2) {
            Due.is("define(0, 3, 30)", x.define(0, 3, 30), true);
            Due.is("drop(0, 3)", x.drop(0, 3), true);
        }
        Due.is("after dropping throughout, send(0, 3)", x.send(0, 3), 0);
    }

    private static void moveThroughout() {
        SendTable x = Due.tree(SendTable.NONE, SendTable.NONE, 0);
        for (int used = 3; used < CALLS - 2; used++) {
            int to = used % 2 - 1;
            Due.is("move(2, " + to + ")", x.move(2, to), true);
        }
        Due.is("move(2, 1), where it has not been", x.move(2, 1), true);
        Due.is("after moving throughout, parent(2)", x.parent(2), 1);
    }

    private static void askedThroughout() {
        SendTable x = Boundary.five();
        for (int used = 11; used < CALLS - 1; used += 2) {
            Due.is("crowd()", x.crowd(), 2);
            Due.is("colours()", x.colours(), 2);
        }
        Due.is("after asking throughout, heirs(0, 7)", x.heirs(0, 7), 0b00111);
    }
}
