/** The boundary cases of promises 1, 2, 5, 6, 7 and 16, a test for each. */
public final class BoundaryTreeTest {
    private static final int NONE = SendTable.NONE;
    private static final int FULL = SendTable.FULL;

    public static void main(String[] args) {
        Due.test("1: no classes", BoundaryTreeTest::newHasNoClasses);
        Due.test("1: no classes, with another object in use", BoundaryTreeTest::newBesideAnother);
        Due.test("2: as a root when parent is NONE", BoundaryTreeTest::addRoot);
        Due.test("2: the number of classes there were, first to last", BoundaryTreeTest::addNumbers);
        Due.test("2: the number of classes there were, after refused calls", BoundaryTreeTest::addNumbersAfterRefused);
        Due.test("2: parent is no class, none being there", BoundaryTreeTest::addToEmpty);
        Due.test("2: parent is no class, too small", BoundaryTreeTest::addParentTooSmall);
        Due.test("2: parent is no class, too large", BoundaryTreeTest::addParentTooLarge);
        Due.test("2: not FULL with nine classes", BoundaryTreeTest::addTenth);
        Due.test("2: FULL with ten classes, parent NONE", BoundaryTreeTest::addRootToFull);
        Due.test("2: FULL with ten classes, parent a class", BoundaryTreeTest::addUnderToFull);
        Due.test("2: FULL stays", BoundaryTreeTest::fullStays);
        Due.test("5: with all that was added under it", BoundaryTreeTest::moveAllUnder);
        Due.test("5: a root when parent is NONE", BoundaryTreeTest::moveToRoot);
        Due.test("5: parent is NONE and c a root", BoundaryTreeTest::moveRootToRoot);
        Due.test("5: parent is the one it is under", BoundaryTreeTest::moveToSame);
        Due.test("5: parent above, beside and in another tree", BoundaryTreeTest::moveAllowed);
        Due.test("5: the first and the last class", BoundaryTreeTest::moveEnds);
        Due.test("5: no class c, none being there", BoundaryTreeTest::moveOnEmpty);
        Due.test("5: no class c, too small", BoundaryTreeTest::moveClassTooSmall);
        Due.test("5: no class c, too large", BoundaryTreeTest::moveClassTooLarge);
        Due.test("5: parent is no class, too small", BoundaryTreeTest::moveParentTooSmall);
        Due.test("5: parent is no class, too large", BoundaryTreeTest::moveParentTooLarge);
        Due.test("5: parent is c", BoundaryTreeTest::moveUnderItself);
        Due.test("5: parent lies under c directly", BoundaryTreeTest::moveUnderNext);
        Due.test("5: parent lies under c not directly", BoundaryTreeTest::moveUnderFar);
        Due.test("5: parent lies under c by a move", BoundaryTreeTest::moveUnderMoved);
        Due.test("5: parent lies under c no longer", BoundaryTreeTest::moveUnderFreed);
        Due.test("6: none and ten", BoundaryTreeTest::classesEnds);
        Due.test("6: other calls do not count", BoundaryTreeTest::classesOthers);
        Due.test("7: the class that c is under", BoundaryTreeTest::parentEnds);
        Due.test("7: c is a root", BoundaryTreeTest::parentOfRoot);
        Due.test("7: no class c, none being there", BoundaryTreeTest::parentOnEmpty);
        Due.test("7: no class c, too small", BoundaryTreeTest::parentTooSmall);
        Due.test("7: no class c, too large", BoundaryTreeTest::parentTooLarge);
        Due.test("16: NONE before FULL, parent too small", BoundaryTreeTest::orderTooSmall);
        Due.test("16: NONE before FULL, parent too large", BoundaryTreeTest::orderTooLarge);
        Due.test("16: with NONE nothing changes", BoundaryTreeTest::noneChangesNothing);
        Due.test("16: with FULL nothing changes", BoundaryTreeTest::fullChangesNothing);
        Due.end();
    }

    private static void newHasNoClasses() {
        SendTable x = new SendTable();
        Due.is("classes()", x.classes(), 0);
        for (int c = 0; c < 10; c++) {
            Due.is("define(" + c + ", 0, 1)", x.define(c, 0, 1), false);
            Due.is("move(" + c + ", NONE)", x.move(c, NONE), false);
            Due.is("addClass(" + c + ")", x.addClass(c), NONE);
        }
        for (int c = 0; c < 10; c++) {
            Due.is("addClass(NONE)", x.addClass(NONE), c);
            Due.is("understands(" + c + ")", x.understands(c), 0);
        }
    }

    private static void newBesideAnother() {
        SendTable used = Boundary.chain();
        String before = Boundary.view(Boundary.chain());
        SendTable x = new SendTable();
        Due.is("classes()", x.classes(), 0);
        Due.is("addClass(9)", x.addClass(9), NONE);
        Due.is("addClass(NONE)", x.addClass(NONE), 0);
        Due.is("understands(0)", x.understands(0), 0);
        Due.is("define(0, 0, 555)", x.define(0, 0, 555), true);
        Due.is("the other object", Boundary.view(used), before);
    }

    private static void addRoot() {
        SendTable x = new SendTable();
        Due.is("addClass(NONE), the first", x.addClass(NONE), 0);
        Due.is("parent(0)", x.parent(0), NONE);
        x.define(0, 2, 20);
        Due.is("addClass(NONE), the second", x.addClass(NONE), 1);
        Due.is("parent(1)", x.parent(1), NONE);
        Due.is("send(1, 2)", x.send(1, 2), 0);
        Due.is("addClass(-1)", x.addClass(-1), 2);
        Due.is("parent(2)", x.parent(2), NONE);
    }

    private static void addNumbers() {
        SendTable roots = new SendTable();
        SendTable chain = new SendTable();
        for (int c = 0; c < 10; c++) {
            Due.is("addClass(NONE)", roots.addClass(NONE), c);
            Due.is("addClass(" + (c - 1) + ")", chain.addClass(c - 1), c);
            Due.is("roots: classes()", roots.classes(), c + 1);
            Due.is("chain: parent(" + c + ")", chain.parent(c), c - 1);
        }
    }

    private static void addNumbersAfterRefused() {
        SendTable x = new SendTable();
        for (int c = 0; c < 10; c++) {
            Due.is("addClass(" + c + ")", x.addClass(c), NONE);
            Due.is("addClass(FULL)", x.addClass(FULL), NONE);
            Due.is("move(" + c + ", NONE)", x.move(c, NONE), false);
            Due.is("define(" + c + ", 0, 1)", x.define(c, 0, 1), false);
            Due.is("addClass(NONE)", x.addClass(NONE), c);
        }
    }

    private static void addToEmpty() {
        for (int p : Boundary.classTooLarge(0)) {
            Boundary.changesNothing("addClass(" + p + ")", SendTable::new, x -> x.addClass(p), NONE);
        }
        for (int p : Boundary.PARENT_TOO_SMALL) {
            Boundary.changesNothing("addClass(" + p + ")", SendTable::new, x -> x.addClass(p), NONE);
        }
    }

    private static void addParentTooSmall() {
        for (int p : Boundary.PARENT_TOO_SMALL) {
            Boundary.changesNothing("addClass(" + p + ")", Boundary::five, x -> x.addClass(p), NONE);
        }
    }

    private static void addParentTooLarge() {
        for (int p : Boundary.classTooLarge(5)) {
            Boundary.changesNothing("addClass(" + p + ")", Boundary::five, x -> x.addClass(p), NONE);
        }
    }

    private static void addTenth() {
        SendTable x = Due.tree(NONE, 0, 1, 2, 3, 4, 5, 6, 7);
        x.define(8, 7, 87);
        Due.is("addClass(8)", x.addClass(8), 9);
        Due.is("classes()", x.classes(), 10);
        Due.is("parent(9)", x.parent(9), 8);
        Due.is("send(9, 7)", x.send(9, 7), 87);
        Due.is("define(9, 0, 90)", x.define(9, 0, 90), true);
        Due.is("send(9, 0)", x.send(9, 0), 90);
    }

    private static void addRootToFull() {
        Boundary.changesNothing("addClass(NONE)", Boundary::chain, x -> x.addClass(NONE), FULL);
    }

    private static void addUnderToFull() {
        for (int p = 0; p < 10; p++) {
            int parent = p;
            Boundary.changesNothing("addClass(" + p + ")", Boundary::chain, x -> x.addClass(parent), FULL);
        }
    }

    private static void fullStays() {
        SendTable x = Boundary.chain();
        for (int i = 0; i < 20; i++) {
            Due.is("addClass(NONE) again", x.addClass(NONE), FULL);
        }
        x.drop(9, 0);
        x.move(9, NONE);
        Due.is("addClass(NONE) after drop and move", x.addClass(NONE), FULL);
        Due.is("classes()", x.classes(), 10);
    }

    private static void moveAllUnder() {
        SendTable x = Boundary.five();
        Due.is("move(0, 4)", x.move(0, 4), true);
        Due.is("parent(0)", x.parent(0), 4);
        Due.is("parent(1)", x.parent(1), 0);
        Due.is("parent(2)", x.parent(2), 0);
        Due.is("parent(3)", x.parent(3), 1);
        for (int c = 0; c < 5; c++) {
            Due.is("send(" + c + ", 3)", x.send(c, 3), 43);
        }
        Due.is("send(3, 7), its own", x.send(3, 7), 37);
        Due.is("send(2, 7), of class 0 still", x.send(2, 7), 1000);
        Due.is("sendSuper(0, 7)", x.sendSuper(0, 7), 47);
    }

    private static void moveToRoot() {
        SendTable x = Boundary.five();
        Due.is("move(1, NONE)", x.move(1, NONE), true);
        Due.is("parent(1)", x.parent(1), NONE);
        Due.is("parent(3)", x.parent(3), 1);
        Due.is("send(1, 0), its own", x.send(1, 0), 10);
        Due.is("send(1, 7), no longer of class 0", x.send(1, 7), 0);
        Due.is("send(3, 0)", x.send(3, 0), 10);
        Due.is("heirs(0, 7)", x.heirs(0, 7), 0b00101);
    }

    private static void moveRootToRoot() {
        Boundary.changesNothing("move(0, NONE)", Boundary::five, x -> x.move(0, NONE) ? 1 : 0, 1);
        Boundary.changesNothing("move(4, NONE)", Boundary::five, x -> x.move(4, NONE) ? 1 : 0, 1);
    }

    private static void moveToSame() {
        Boundary.changesNothing("move(1, 0)", Boundary::five, x -> x.move(1, 0) ? 1 : 0, 1);
        Boundary.changesNothing("move(3, 1)", Boundary::five, x -> x.move(3, 1) ? 1 : 0, 1);
        Boundary.changesNothing("move(9, 8)", Boundary::chain, x -> x.move(9, 8) ? 1 : 0, 1);
    }

    private static void moveAllowed() {
        SendTable x = Boundary.five();
        Due.is("move(3, 0), above", x.move(3, 0), true);
        Due.is("parent(3)", x.parent(3), 0);
        Due.is("move(1, 2), beside", x.move(1, 2), true);
        Due.is("parent(1)", x.parent(1), 2);
        Due.is("move(2, 4), another tree", x.move(2, 4), true);
        Due.is("parent(2)", x.parent(2), 4);
        Due.is("parent(1), taken along", x.parent(1), 2);
    }

    private static void moveEnds() {
        SendTable x = Boundary.chain();
        Due.is("move(9, 0)", x.move(9, 0), true);
        Due.is("parent(9)", x.parent(9), 0);
        Due.is("move(9, NONE)", x.move(9, NONE), true);
        Due.is("parent(9)", x.parent(9), NONE);
        Due.is("move(0, 9)", x.move(0, 9), true);
        Due.is("parent(0)", x.parent(0), 9);
        Due.is("send(8, 6), nine up", x.send(8, 6), 96);
        Due.is("move(0, 8)", x.move(0, 8), false);
        Due.is("move(9, 8)", x.move(9, 8), false);
        Due.is("parent(9)", x.parent(9), NONE);
    }

    private static void moveOnEmpty() {
        for (int c = -1; c <= 10; c++) {
            int moved = c;
            Boundary.refuses("move(" + c + ", NONE)", SendTable::new, x -> x.move(moved, NONE));
            Boundary.refuses("move(" + c + ", 0)", SendTable::new, x -> x.move(moved, 0));
        }
    }

    private static void moveClassTooSmall() {
        for (int c : Boundary.CLASS_TOO_SMALL) {
            Boundary.refuses("move(" + c + ", NONE)", Boundary::five, x -> x.move(c, NONE));
            Boundary.refuses("move(" + c + ", 0)", Boundary::five, x -> x.move(c, 0));
            Boundary.refuses("move(" + c + ", 4)", Boundary::five, x -> x.move(c, 4));
        }
    }

    private static void moveClassTooLarge() {
        for (int c : Boundary.classTooLarge(5)) {
            Boundary.refuses("move(" + c + ", NONE)", Boundary::five, x -> x.move(c, NONE));
            Boundary.refuses("move(" + c + ", 0)", Boundary::five, x -> x.move(c, 0));
            Boundary.refuses("move(" + c + ", 4)", Boundary::five, x -> x.move(c, 4));
        }
        for (int c : Boundary.classTooLarge(10)) {
            Boundary.refuses("full: move(" + c + ", NONE)", Boundary::chain, x -> x.move(c, NONE));
            Boundary.refuses("full: move(" + c + ", 0)", Boundary::chain, x -> x.move(c, 0));
        }
    }

    private static void moveParentTooSmall() {
        for (int p : Boundary.PARENT_TOO_SMALL) {
            Boundary.refuses("move(0, " + p + ")", Boundary::five, x -> x.move(0, p));
            Boundary.refuses("move(3, " + p + ")", Boundary::five, x -> x.move(3, p));
        }
    }

    private static void moveParentTooLarge() {
        for (int p : Boundary.classTooLarge(5)) {
            Boundary.refuses("move(0, " + p + ")", Boundary::five, x -> x.move(0, p));
            Boundary.refuses("move(3, " + p + ")", Boundary::five, x -> x.move(3, p));
        }
        for (int p : Boundary.classTooLarge(10)) {
            Boundary.refuses("full: move(9, " + p + ")", Boundary::chain, x -> x.move(9, p));
        }
    }

    private static void moveUnderItself() {
        for (int c = 0; c < 10; c++) {
            int moved = c;
            Boundary.refuses("move(" + c + ", " + c + ")", Boundary::chain, x -> x.move(moved, moved));
        }
        Boundary.refuses("move(4, 4), nothing under it", Boundary::five, x -> x.move(4, 4));
    }

    private static void moveUnderNext() {
        for (int c = 0; c < 9; c++) {
            int moved = c;
            Boundary.refuses("move(" + c + ", " + (c + 1) + ")", Boundary::chain, x -> x.move(moved, moved + 1));
        }
        Boundary.refuses("move(0, 2), the later of two", Boundary::five, x -> x.move(0, 2));
    }

    private static void moveUnderFar() {
        for (int c = 0; c < 8; c++) {
            for (int p = c + 2; p < 10; p++) {
                int moved = c;
                int parent = p;
                Boundary.refuses("move(" + c + ", " + p + ")", Boundary::chain, x -> x.move(moved, parent));
            }
        }
    }

    /** The numbers fall on the way down here, so no order of numbers tells what lies under what. */
    private static SendTable turnedRound() {
        SendTable x = Due.tree(NONE, NONE, NONE, NONE);
        x.move(2, 3);
        x.move(1, 2);
        x.move(0, 1);
        x.define(3, 5, 35);
        return x;
    }

    private static void moveUnderMoved() {
        Due.is("send(0, 5)", turnedRound().send(0, 5), 35);
        Boundary.refuses("move(3, 2)", BoundaryTreeTest::turnedRound, x -> x.move(3, 2));
        Boundary.refuses("move(3, 0)", BoundaryTreeTest::turnedRound, x -> x.move(3, 0));
        Boundary.refuses("move(2, 0)", BoundaryTreeTest::turnedRound, x -> x.move(2, 0));
        Boundary.refuses("move(1, 0)", BoundaryTreeTest::turnedRound, x -> x.move(1, 0));
    }

    private static void moveUnderFreed() {
        SendTable x = Boundary.five();
        Due.is("move(0, 3)", x.move(0, 3), false);
        Due.is("move(1, NONE)", x.move(1, NONE), true);
        Due.is("move(0, 3), 3 having gone with 1", x.move(0, 3), true);
        Due.is("parent(0)", x.parent(0), 3);
        Due.is("parent(1)", x.parent(1), NONE);
        Due.is("send(0, 7), its own", x.send(0, 7), 1000);
        Due.is("sendSuper(0, 7)", x.sendSuper(0, 7), 37);
    }

    private static void classesEnds() {
        SendTable x = new SendTable();
        for (int n = 0; n < 10; n++) {
            Due.is("classes()", x.classes(), n);
            x.addClass(n - 1);
        }
        Due.is("classes(), all", x.classes(), 10);
        x.addClass(NONE);
        Due.is("classes(), after FULL", x.classes(), 10);
    }

    private static void classesOthers() {
        SendTable x = Boundary.five();
        x.addClass(5);
        x.addClass(FULL);
        x.define(5, 0, 1);
        x.define(0, 1, 1);
        x.drop(0, 1);
        x.drop(0, 1);
        x.move(3, NONE);
        x.move(5, NONE);
        Due.is("classes()", x.classes(), 5);
    }

    private static void parentEnds() {
        SendTable x = Boundary.chain();
        for (int c = 1; c < 10; c++) {
            Due.is("parent(" + c + ")", x.parent(c), c - 1);
        }
        SendTable y = Due.tree(NONE, 0, 0, 0, 0, 0, 0, 0, 0, 0);
        for (int c = 1; c < 10; c++) {
            Due.is("parent(" + c + "), all under 0", y.parent(c), 0);
        }
    }

    private static void parentOfRoot() {
        SendTable x = Boundary.filled(Boundary.five());
        Due.is("parent(0)", x.parent(0), NONE);
        Due.is("parent(4)", x.parent(4), NONE);
        Due.is("parent(9)", x.parent(9), NONE);
        x.move(3, NONE);
        Due.is("parent(3), made a root", x.parent(3), NONE);
    }

    private static void parentOnEmpty() {
        for (int c = -2; c <= 10; c++) {
            int asked = c;
            Boundary.changesNothing("parent(" + c + ")", SendTable::new, x -> x.parent(asked), NONE);
        }
    }

    private static void parentTooSmall() {
        for (int c : Boundary.CLASS_TOO_SMALL) {
            Boundary.changesNothing("parent(" + c + ")", Boundary::five, x -> x.parent(c), NONE);
        }
    }

    private static void parentTooLarge() {
        for (int c : Boundary.classTooLarge(5)) {
            Boundary.changesNothing("parent(" + c + ")", Boundary::five, x -> x.parent(c), NONE);
        }
        for (int c : Boundary.classTooLarge(10)) {
            Boundary.changesNothing("full: parent(" + c + ")", Boundary::chain, x -> x.parent(c), NONE);
        }
    }

    private static void orderTooSmall() {
        for (int p : Boundary.PARENT_TOO_SMALL) {
            Boundary.changesNothing("full: addClass(" + p + ")", Boundary::chain, x -> x.addClass(p), NONE);
        }
    }

    private static void orderTooLarge() {
        for (int p : Boundary.classTooLarge(10)) {
            Boundary.changesNothing("full: addClass(" + p + ")", Boundary::chain, x -> x.addClass(p), NONE);
        }
    }

    private static void noneChangesNothing() {
        SendTable x = Boundary.five();
        Due.is("addClass(5)", x.addClass(5), NONE);
        Due.is("addClass(FULL)", x.addClass(FULL), NONE);
        Due.is("classes()", x.classes(), 5);
        Due.is("parent(5)", x.parent(5), NONE);
        Due.is("define(5, 0, 1)", x.define(5, 0, 1), false);
        Due.is("move(4, 5)", x.move(4, 5), false);
        Due.is("addClass(3)", x.addClass(3), 5);
        Due.is("parent(5), there now", x.parent(5), 3);
        Due.is("send(5, 7)", x.send(5, 7), 37);
    }

    private static void fullChangesNothing() {
        SendTable x = Boundary.chain();
        Due.is("addClass(NONE)", x.addClass(NONE), FULL);
        Due.is("addClass(3)", x.addClass(3), FULL);
        Due.is("classes()", x.classes(), 10);
        Due.is("parent(9)", x.parent(9), 8);
        Due.is("parent(0)", x.parent(0), NONE);
        Due.is("send(9, 0)", x.send(9, 0), 90);
        Due.is("send(9, 7)", x.send(9, 7), 1000);
        Due.is("define(10, 0, 1)", x.define(10, 0, 1), false);
        Due.is("move(9, 10)", x.move(9, 10), false);
    }
}
