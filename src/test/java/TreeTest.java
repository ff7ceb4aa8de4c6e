/** Promises 1, 2, 5, 6, 7 and 16: the tree of classes. */
public final class TreeTest {
    private static final int NONE = SendTable.NONE;
    private static final int FULL = SendTable.FULL;

    public static void main(String[] args) {
        newObject();
        addClassNumbersAndParents();
        addClassWrongParent();
        addClassFull();
        addClassInheritsAtOnce();
        addClassTakesNoCopy();
        moveTakesWhatIsUnder();
        moveToNoneAndToTheSame();
        moveRefused();
        moveUnderALaterClass();
        moveAlongTheLongestChain();
        parentOfNoClass();
        objectsAreApart();
        Due.end();
    }

    private static void newObject() {
        SendTable x = new SendTable();
        Due.is("new: classes()", x.classes(), 0);
        Due.is("new: parent(0)", x.parent(0), NONE);
        Due.is("new: send(0, 0)", x.send(0, 0), 0);
        Due.is("new: sendSuper(0, 0)", x.sendSuper(0, 0), 0);
        Due.is("new: owner(0, 0)", x.owner(0, 0), NONE);
        Due.is("new: understands(0)", x.understands(0), 0);
        Due.is("new: heirs(0, 0)", x.heirs(0, 0), 0);
        Due.is("new: apart(0)", x.apart(0), 254);
        Due.is("new: crowd()", x.crowd(), 0);
        Due.is("new: colours()", x.colours(), 0);
        Due.is("new: define(0, 0, 1)", x.define(0, 0, 1), false);
        Due.is("new: drop(0, 0)", x.drop(0, 0), false);
        Due.is("new: move(0, NONE)", x.move(0, NONE), false);
        Due.is("new: classes() after refusals", x.classes(), 0);
        Due.is("new: first class", x.addClass(NONE), 0);
        Due.is("new: nothing is defined", x.understands(0), 0);
    }

    private static void addClassNumbersAndParents() {
        int[] parents = {NONE, 0, 0, 2, NONE, 4, 1, 3, 3, 8};
        SendTable x = new SendTable();
        for (int c = 0; c < parents.length; c++) {
            Due.is("classes() before class " + c, x.classes(), c);
            Due.is("addClass(" + parents[c] + ")", x.addClass(parents[c]), c);
            Due.is("classes() after class " + c, x.classes(), c + 1);
        }
        for (int c = 0; c < parents.length; c++) {
            Due.is("parent(" + c + ")", x.parent(c), parents[c]);
        }
    }

    private static void addClassWrongParent() {
        SendTable x = Due.tree(NONE, 0);
        String before = Due.state(x);
        Due.is("addClass(2), the next number", x.addClass(2), NONE);
        Due.is("addClass(3)", x.addClass(3), NONE);
        Due.is("addClass(9)", x.addClass(9), NONE);
        Due.is("addClass(FULL)", x.addClass(FULL), NONE);
        for (int p : Due.NEVER) {
            Due.is("addClass(" + p + ")", x.addClass(p), NONE);
        }
        Due.is("after wrong parents", Due.state(x), before);
        Due.is("addClass(1) after wrong parents", x.addClass(1), 2);
    }

    private static void addClassFull() {
        SendTable x = Due.tree(NONE, 0, 1, NONE, 3, 3, 3, 0, 7, 8);
        String before = Due.state(x);
        Due.is("full: addClass(NONE)", x.addClass(NONE), FULL);
        Due.is("full: addClass(0)", x.addClass(0), FULL);
        Due.is("full: addClass(9)", x.addClass(9), FULL);
        Due.is("full: addClass(10), no class first", x.addClass(10), NONE);
        for (int p : Due.NEVER) {
            Due.is("full: addClass(" + p + "), no class first", x.addClass(p), NONE);
        }
        Due.is("full: classes()", x.classes(), 10);
        Due.is("full: parent(10)", x.parent(10), NONE);
        Due.is("full: nothing changed", Due.state(x), before);
    }

    private static void addClassInheritsAtOnce() {
        SendTable x = Due.tree(NONE);
        x.define(0, 3, 30);
        Due.is("addClass(0)", x.addClass(0), 1);
        Due.is("a class added later inherits", x.send(1, 3), 30);
        Due.is("addClass(NONE)", x.addClass(NONE), 2);
        Due.is("a root inherits nothing", x.understands(2), 0);
    }

    /** A class that took a copy of what was above it would answer the same until that changes. */
    private static void addClassTakesNoCopy() {
        SendTable x = Due.tree(NONE, 0);
        x.define(0, 3, 30);
        x.define(1, 4, 41);
        Due.is("addClass(1)", x.addClass(1), 2);
        Due.is("owner(2, 3)", x.owner(2, 3), 0);
        Due.is("owner(2, 4)", x.owner(2, 4), 1);
        Due.is("heirs(0, 3)", x.heirs(0, 3), 0b111);
        Due.is("heirs(2, 4)", x.heirs(2, 4), 0);
        Due.is("drop(2, 4), only inherited", x.drop(2, 4), false);
        x.define(0, 3, 31);
        Due.is("send(2, 3), defined anew above", x.send(2, 3), 31);
        x.drop(1, 4);
        Due.is("send(2, 4), dropped above", x.send(2, 4), 0);
        x.move(2, NONE);
        Due.is("understands(2), made a root", x.understands(2), 0);
    }

    private static void moveTakesWhatIsUnder() {
        SendTable x = Due.tree(NONE, NONE, 0, 2, 2, 3);
        x.define(0, 0, 100);
        x.define(1, 0, 200);
        x.define(1, 1, 201);
        Due.is("send(5, 0) before", x.send(5, 0), 100);
        Due.is("move(2, 1)", x.move(2, 1), true);
        Due.is("parent(2)", x.parent(2), 1);
        Due.is("parent(3) stays", x.parent(3), 2);
        Due.is("parent(4) stays", x.parent(4), 2);
        Due.is("parent(5) stays", x.parent(5), 3);
        Due.is("send(2, 0)", x.send(2, 0), 200);
        Due.is("send(5, 0)", x.send(5, 0), 200);
        Due.is("send(4, 1)", x.send(4, 1), 201);
        Due.is("heirs(1, 0)", x.heirs(1, 0), 0b111110);
        Due.is("heirs(0, 0)", x.heirs(0, 0), 0b000001);
        Due.is("classes()", x.classes(), 6);
    }

    private static void moveToNoneAndToTheSame() {
        SendTable x = Due.tree(NONE, 0, 1);
        x.define(0, 0, 5);
        Due.is("move(1, 0), where it is", x.move(1, 0), true);
        Due.is("parent(1)", x.parent(1), 0);
        Due.is("move(0, NONE), a root already", x.move(0, NONE), true);
        Due.is("parent(0)", x.parent(0), NONE);
        Due.is("move(1, NONE)", x.move(1, NONE), true);
        Due.is("parent(1) a root", x.parent(1), NONE);
        Due.is("send(2, 0) cut off", x.send(2, 0), 0);
        Due.is("move(0, 2), no longer above", x.move(0, 2), true);
        Due.is("parent(0) under 2", x.parent(0), 2);
        Due.is("move(1, 0) would close a ring", x.move(1, 0), false);
    }

    private static void moveRefused() {
        SendTable x = Due.tree(NONE, 0, 1, 2, NONE);
        x.define(0, 0, 5);
        x.define(4, 0, 6);
        String before = Due.state(x);
        for (int c = 0; c < 5; c++) {
            Due.is("move(" + c + ", " + c + ")", x.move(c, c), false);
        }
        Due.is("move(0, 1), directly under", x.move(0, 1), false);
        Due.is("move(0, 2), under", x.move(0, 2), false);
        Due.is("move(0, 3), far under", x.move(0, 3), false);
        Due.is("move(1, 3)", x.move(1, 3), false);
        Due.is("move(2, 3)", x.move(2, 3), false);
        Due.is("move(NONE, 0)", x.move(NONE, 0), false);
        Due.is("move(NONE, NONE)", x.move(NONE, NONE), false);
        Due.is("move(5, 0), no class yet", x.move(5, 0), false);
        Due.is("move(5, NONE)", x.move(5, NONE), false);
        Due.is("move(5, 5)", x.move(5, 5), false);
        Due.is("move(0, 5)", x.move(0, 5), false);
        Due.is("move(10, 0)", x.move(10, 0), false);
        Due.is("move(0, 10)", x.move(0, 10), false);
        for (int n : Due.NEVER) {
            Due.is("move(" + n + ", 0)", x.move(n, 0), false);
            Due.is("move(" + n + ", NONE)", x.move(n, NONE), false);
            Due.is("move(1, " + n + ")", x.move(1, n), false);
        }
        Due.is("after refused moves", Due.state(x), before);
        Due.is("move(3, 1), further up", x.move(3, 1), true);
        Due.is("move(2, 3), now beside it", x.move(2, 3), true);
    }

    private static void moveUnderALaterClass() {
        SendTable x = Due.tree(NONE, NONE, 1);
        x.define(2, 4, 44);
        Due.is("move(0, 2)", x.move(0, 2), true);
        Due.is("parent(0)", x.parent(0), 2);
        Due.is("send(0, 4)", x.send(0, 4), 44);
        Due.is("move(2, 0) would close a ring", x.move(2, 0), false);
        Due.is("move(1, 0) would close a ring", x.move(1, 0), false);
        Due.is("parent(1) stays", x.parent(1), NONE);
    }

    private static void moveAlongTheLongestChain() {
        SendTable x = Due.tree(NONE, 0, 1, 2, 3, 4, 5, 6, 7, 8);
        x.define(0, 6, 600);
        Due.is("send(9, 6) from the far end", x.send(9, 6), 600);
        Due.is("sendSuper(9, 6)", x.sendSuper(9, 6), 600);
        Due.is("owner(9, 6)", x.owner(9, 6), 0);
        Due.is("heirs(0, 6)", x.heirs(0, 6), 1023);
        Due.is("move(0, 9)", x.move(0, 9), false);
        Due.is("move(1, 9)", x.move(1, 9), false);
        Due.is("move(9, 0)", x.move(9, 0), true);
        Due.is("move(1, 9) once 9 is beside", x.move(1, 9), true);
        Due.is("move(9, 8)", x.move(9, 8), false);
        Due.is("send(8, 6)", x.send(8, 6), 600);
    }

    private static void parentOfNoClass() {
        SendTable x = Due.tree(NONE, 0);
        Due.is("parent(0)", x.parent(0), NONE);
        Due.is("parent(1)", x.parent(1), 0);
        Due.is("parent(2)", x.parent(2), NONE);
        Due.is("parent(NONE)", x.parent(NONE), NONE);
        Due.is("parent(10)", x.parent(10), NONE);
        for (int c : Due.NEVER) {
            Due.is("parent(" + c + ")", x.parent(c), NONE);
        }
    }

    private static void objectsAreApart() {
        SendTable x = Due.tree(NONE, 0);
        SendTable y = new SendTable();
        x.define(0, 0, 7);
        Due.is("the other object: classes()", y.classes(), 0);
        Due.is("the other object: addClass(NONE)", y.addClass(NONE), 0);
        Due.is("the other object: send(0, 0)", y.send(0, 0), 0);
        Due.is("the first object: classes()", x.classes(), 2);
    }
}
