/** The boundary cases of the terms and of promises 3, 4, 8, 9 and 10, a test for each. */
public final class BoundaryMethodsTest {
    private static final int NONE = SendTable.NONE;

    public static void main(String[] args) {
        Due.test("terms: its own one, when it defines one", BoundaryMethodsTest::ownFirst);
        Due.test("terms: or else that of the class it is under", BoundaryMethodsTest::inherited);
        Due.test("terms: a root that defines none understands none", BoundaryMethodsTest::bareRoot);
        Due.test("3: first and last class and selector", BoundaryMethodsTest::defineCorners);
        Due.test("3: m is 1 and 1000", BoundaryMethodsTest::defineEndsOfMethods);
        Due.test("3: in place of what it defined", BoundaryMethodsTest::defineInPlace);
        Due.test("3: no class c, none being there", BoundaryMethodsTest::defineOnEmpty);
        Due.test("3: no class c, too small", BoundaryMethodsTest::defineClassTooSmall);
        Due.test("3: no class c, too large", BoundaryMethodsTest::defineClassTooLarge);
        Due.test("3: s is not 0 .. 7, too small", BoundaryMethodsTest::defineSelectorTooSmall);
        Due.test("3: s is not 0 .. 7, too large", BoundaryMethodsTest::defineSelectorTooLarge);
        Due.test("3: m is not 1 .. 1000, too small", BoundaryMethodsTest::defineMethodTooSmall);
        Due.test("3: m is not 1 .. 1000, too large", BoundaryMethodsTest::defineMethodTooLarge);
        Due.test("4: first and last class and selector", BoundaryMethodsTest::dropCorners);
        Due.test("4: takes away only what class c defines", BoundaryMethodsTest::dropOnlyOwn);
        Due.test("4: defines nothing for s, never did", BoundaryMethodsTest::dropNeverDefined);
        Due.test("4: defines nothing for s, dropped already", BoundaryMethodsTest::dropTwice);
        Due.test("4: defines nothing for s, but understands it", BoundaryMethodsTest::dropInherited);
        Due.test("4: no class c, none being there", BoundaryMethodsTest::dropOnEmpty);
        Due.test("4: no class c, too small", BoundaryMethodsTest::dropClassTooSmall);
        Due.test("4: no class c, too large", BoundaryMethodsTest::dropClassTooLarge);
        Due.test("4: s is not 0 .. 7, too small", BoundaryMethodsTest::dropSelectorTooSmall);
        Due.test("4: s is not 0 .. 7, too large", BoundaryMethodsTest::dropSelectorTooLarge);
        Due.test("8: it understands none", BoundaryMethodsTest::sendNotUnderstood);
        Due.test("8: no class c, none being there", BoundaryMethodsTest::sendOnEmpty);
        Due.test("8: no class c, too small", BoundaryMethodsTest::sendClassTooSmall);
        Due.test("8: no class c, too large", BoundaryMethodsTest::sendClassTooLarge);
        Due.test("8: s is not 0 .. 7, too small", BoundaryMethodsTest::sendSelectorTooSmall);
        Due.test("8: s is not 0 .. 7, too large", BoundaryMethodsTest::sendSelectorTooLarge);
        Due.test("9: the one that c is under understands none", BoundaryMethodsTest::superNotUnderstood);
        Due.test("9: c is a root", BoundaryMethodsTest::superOfRoot);
        Due.test("9: no class c, none being there", BoundaryMethodsTest::superOnEmpty);
        Due.test("9: no class c, too small", BoundaryMethodsTest::superClassTooSmall);
        Due.test("9: no class c, too large", BoundaryMethodsTest::superClassTooLarge);
        Due.test("9: s is not 0 .. 7, too small", BoundaryMethodsTest::superSelectorTooSmall);
        Due.test("9: s is not 0 .. 7, too large", BoundaryMethodsTest::superSelectorTooLarge);
        Due.test("10: the first and the last class", BoundaryMethodsTest::ownerEnds);
        Due.test("10: send is 0, not understood", BoundaryMethodsTest::ownerNotUnderstood);
        Due.test("10: send is 0, none being there", BoundaryMethodsTest::ownerOnEmpty);
        Due.test("10: send is 0, c too small", BoundaryMethodsTest::ownerClassTooSmall);
        Due.test("10: send is 0, c too large", BoundaryMethodsTest::ownerClassTooLarge);
        Due.test("10: send is 0, s too small", BoundaryMethodsTest::ownerSelectorTooSmall);
        Due.test("10: send is 0, s too large", BoundaryMethodsTest::ownerSelectorTooLarge);
        Due.end();
    }

    private static void ownFirst() {
        SendTable x = Boundary.chain();
        Due.is("send(9, 0)", x.send(9, 0), 90);
        Due.is("send(8, 0)", x.send(8, 0), 1);
        Due.is("send(0, 0)", x.send(0, 0), 1);
        Due.is("define(0, 6, 6), above what 9 has", x.define(0, 6, 6), true);
        Due.is("send(9, 6)", x.send(9, 6), 96);
        SendTable y = Boundary.five();
        Due.is("send(1, 0), the next one above defining it too", y.send(1, 0), 10);
        Due.is("send(3, 7)", y.send(3, 7), 37);
        Due.is("define(1, 7, 17)", y.define(1, 7, 17), true);
        Due.is("send(3, 7), with two above it", y.send(3, 7), 37);
    }

    private static void inherited() {
        SendTable x = Boundary.chain();
        for (int c = 0; c < 10; c++) {
            Due.is("send(" + c + ", 7)", x.send(c, 7), 1000);
        }
        x.define(5, 7, 57);
        for (int c = 0; c < 10; c++) {
            Due.is("send(" + c + ", 7), the nearer", x.send(c, 7), c < 5 ? 1000 : 57);
        }
    }

    private static void bareRoot() {
        SendTable x = Boundary.filled(Boundary.five());
        for (int s = 0; s < 8; s++) {
            Due.is("send(9, " + s + ")", x.send(9, s), 0);
            Due.is("owner(9, " + s + ")", x.owner(9, s), NONE);
        }
        Due.is("understands(9)", x.understands(9), 0);
    }

    /** Class 0 or 9 with selector 0 or 7, on ten roots, so that no other class may show it. */
    private static void defineCorners() {
        for (int c = 0; c < 10; c += 9) {
            for (int s = 0; s < 8; s += 7) {
                SendTable x = Boundary.filled(new SendTable());
                Due.is("define(" + c + ", " + s + ", 5)", x.define(c, s, 5), true);
                for (int d = 0; d < 10; d++) {
                    for (int t = 0; t < 8; t++) {
                        String at = "(" + d + ", " + t + ") after define(" + c + ", " + s + ", 5)";
                        Due.is("send" + at, x.send(d, t), d == c && t == s ? 5 : 0);
                    }
                }
            }
        }
    }

    private static void defineEndsOfMethods() {
        SendTable x = Boundary.filled(new SendTable());
        Due.is("define(0, 0, 1)", x.define(0, 0, 1), true);
        Due.is("send(0, 0)", x.send(0, 0), 1);
        Due.is("define(9, 7, 1000)", x.define(9, 7, 1000), true);
        Due.is("send(9, 7)", x.send(9, 7), 1000);
        Due.is("define(0, 0, 1000)", x.define(0, 0, 1000), true);
        Due.is("send(0, 0)", x.send(0, 0), 1000);
        Due.is("define(9, 7, 1)", x.define(9, 7, 1), true);
        Due.is("send(9, 7)", x.send(9, 7), 1);
    }

    private static void defineInPlace() {
        SendTable x = Boundary.five();
        Due.is("define(1, 0, 11)", x.define(1, 0, 11), true);
        Due.is("send(1, 0)", x.send(1, 0), 11);
        Due.is("send(3, 0)", x.send(3, 0), 11);
        Due.is("send(0, 0) stays", x.send(0, 0), 1);
        Due.is("define(1, 0, 11), the same", x.define(1, 0, 11), true);
        Due.is("define(1, 0, 5), a smaller one", x.define(1, 0, 5), true);
        Due.is("send(1, 0)", x.send(1, 0), 5);
        Due.is("drop(1, 0)", x.drop(1, 0), true);
        Due.is("send(1, 0), inherited", x.send(1, 0), 1);
        Due.is("drop(1, 0), nothing beneath", x.drop(1, 0), false);
    }

    private static void defineOnEmpty() {
        for (int c = -1; c <= 10; c++) {
            int to = c;
            Boundary.refuses("define(" + c + ", 0, 1)", SendTable::new, x -> x.define(to, 0, 1));
            Boundary.refuses("define(" + c + ", 7, 1000)", SendTable::new, x -> x.define(to, 7, 1000));
        }
    }

    private static void defineClassTooSmall() {
        for (int c : Boundary.CLASS_TOO_SMALL) {
            Boundary.refuses("define(" + c + ", 0, 5)", Boundary::five, x -> x.define(c, 0, 5));
            Boundary.refuses("define(" + c + ", 7, 5)", Boundary::five, x -> x.define(c, 7, 5));
            // With these a cell number worked out from both would be a good one.
            Boundary.refuses("define(" + c + ", " + -8 * c + ", 5)", Boundary::five, x -> x.define(c, -8 * c, 5));
        }
    }

    private static void defineClassTooLarge() {
        for (int c : Boundary.classTooLarge(5)) {
            Boundary.refuses("define(" + c + ", 0, 5)", Boundary::five, x -> x.define(c, 0, 5));
            Boundary.refuses("define(" + c + ", 7, 5)", Boundary::five, x -> x.define(c, 7, 5));
        }
        for (int c : Boundary.classTooLarge(10)) {
            Boundary.refuses("full: define(" + c + ", 0, 5)", Boundary::chain, x -> x.define(c, 0, 5));
            Boundary.refuses("full: define(" + c + ", 7, 5)", Boundary::chain, x -> x.define(c, 7, 5));
        }
    }

    private static void defineSelectorTooSmall() {
        for (int s : Boundary.SELECTOR_TOO_SMALL) {
            Boundary.refuses("define(0, " + s + ", 5)", Boundary::five, x -> x.define(0, s, 5));
            Boundary.refuses("define(4, " + s + ", 5)", Boundary::five, x -> x.define(4, s, 5));
        }
    }

    private static void defineSelectorTooLarge() {
        for (int s : Boundary.SELECTOR_TOO_LARGE) {
            Boundary.refuses("define(0, " + s + ", 5)", Boundary::five, x -> x.define(0, s, 5));
            Boundary.refuses("define(4, " + s + ", 5)", Boundary::five, x -> x.define(4, s, 5));
            Boundary.refuses("full: define(9, " + s + ", 5)", Boundary::chain, x -> x.define(9, s, 5));
        }
    }

    private static void defineMethodTooSmall() {
        for (int m : Boundary.METHOD_TOO_SMALL) {
            Boundary.refuses("define(1, 0, " + m + "), defined", Boundary::five, x -> x.define(1, 0, m));
            Boundary.refuses("define(1, 7, " + m + "), inherited", Boundary::five, x -> x.define(1, 7, m));
            Boundary.refuses("define(1, 4, " + m + "), not understood", Boundary::five, x -> x.define(1, 4, m));
        }
    }

    private static void defineMethodTooLarge() {
        for (int m : Boundary.METHOD_TOO_LARGE) {
            Boundary.refuses("define(1, 0, " + m + "), defined", Boundary::five, x -> x.define(1, 0, m));
            Boundary.refuses("define(1, 7, " + m + "), inherited", Boundary::five, x -> x.define(1, 7, m));
            Boundary.refuses("define(1, 4, " + m + "), not understood", Boundary::five, x -> x.define(1, 4, m));
        }
    }

    private static void dropCorners() {
        SendTable x = Boundary.filled(new SendTable());
        for (int c = 0; c < 10; c += 9) {
            for (int s = 0; s < 8; s += 7) {
                x.define(c, s, 1 + c + s);
            }
        }
        for (int c = 0; c < 10; c += 9) {
            for (int s = 0; s < 8; s += 7) {
                Due.is("drop(" + c + ", " + s + ")", x.drop(c, s), true);
                Due.is("send(" + c + ", " + s + ")", x.send(c, s), 0);
            }
        }
    }

    private static void dropOnlyOwn() {
        SendTable x = Boundary.five();
        Due.is("drop(0, 7)", x.drop(0, 7), true);
        Due.is("send(0, 7)", x.send(0, 7), 0);
        Due.is("send(1, 7), inherited until now", x.send(1, 7), 0);
        Due.is("send(3, 7), defined under it", x.send(3, 7), 37);
        Due.is("send(4, 7), in another tree", x.send(4, 7), 47);
        Due.is("send(0, 0), another selector", x.send(0, 0), 1);
        Due.is("drop(1, 0)", x.drop(1, 0), true);
        Due.is("send(1, 0), that of class 0", x.send(1, 0), 1);
    }

    private static void dropNeverDefined() {
        Boundary.refuses("drop(4, 0)", Boundary::five, x -> x.drop(4, 0));
        Boundary.refuses("drop(0, 3)", Boundary::five, x -> x.drop(0, 3));
        for (int s = 0; s < 8; s++) {
            int dropped = s;
            Boundary.refuses("bare: drop(4, " + s + ")", Boundary::bare, x -> x.drop(4, dropped));
        }
    }

    private static SendTable dropped() {
        SendTable x = Boundary.five();
        Due.is("drop(1, 0)", x.drop(1, 0), true);
        Due.is("drop(4, 7)", x.drop(4, 7), true);
        return x;
    }

    private static void dropTwice() {
        Boundary.refuses("drop(1, 0) again", BoundaryMethodsTest::dropped, x -> x.drop(1, 0));
        Boundary.refuses("drop(4, 7) again", BoundaryMethodsTest::dropped, x -> x.drop(4, 7));
    }

    private static void dropInherited() {
        Boundary.refuses("drop(1, 7)", Boundary::five, x -> x.drop(1, 7));
        Boundary.refuses("drop(2, 0)", Boundary::five, x -> x.drop(2, 0));
        Boundary.refuses("drop(3, 0)", Boundary::five, x -> x.drop(3, 0));
        Boundary.refuses("drop(9, 7), nine up", Boundary::chain, x -> x.drop(9, 7));
    }

    private static void dropOnEmpty() {
        for (int c = -1; c <= 10; c++) {
            int from = c;
            Boundary.refuses("drop(" + c + ", 0)", SendTable::new, x -> x.drop(from, 0));
        }
    }

    private static void dropClassTooSmall() {
        for (int c : Boundary.CLASS_TOO_SMALL) {
            Boundary.refuses("drop(" + c + ", 0)", Boundary::five, x -> x.drop(c, 0));
            Boundary.refuses("drop(" + c + ", 7)", Boundary::five, x -> x.drop(c, 7));
            Boundary.refuses("drop(" + c + ", " + -8 * c + ")", Boundary::five, x -> x.drop(c, -8 * c));
        }
    }

    private static void dropClassTooLarge() {
        for (int c : Boundary.classTooLarge(5)) {
            Boundary.refuses("drop(" + c + ", 0)", Boundary::five, x -> x.drop(c, 0));
            Boundary.refuses("drop(" + c + ", 7)", Boundary::five, x -> x.drop(c, 7));
        }
        for (int c : Boundary.classTooLarge(10)) {
            Boundary.refuses("full: drop(" + c + ", 0)", Boundary::chain, x -> x.drop(c, 0));
        }
    }

    private static void dropSelectorTooSmall() {
        for (int s : Boundary.SELECTOR_TOO_SMALL) {
            Boundary.refuses("drop(0, " + s + ")", Boundary::five, x -> x.drop(0, s));
            // From class 1 the cells of selectors -1 and -8 are those of class 0.
            Boundary.refuses("drop(1, " + s + ")", Boundary::five, x -> x.drop(1, s));
        }
    }

    private static void dropSelectorTooLarge() {
        for (int s : Boundary.SELECTOR_TOO_LARGE) {
            // From class 0 the cells of selectors 8 and 39 are those of classes 1 and 4.
            Boundary.refuses("drop(0, " + s + ")", Boundary::five, x -> x.drop(0, s));
            Boundary.refuses("drop(4, " + s + ")", Boundary::five, x -> x.drop(4, s));
            Boundary.refuses("full: drop(9, " + s + ")", Boundary::chain, x -> x.drop(9, s));
        }
    }

    private static void sendNotUnderstood() {
        SendTable x = Boundary.five();
        Due.is("send(4, 0)", x.send(4, 0), 0);
        Due.is("send(0, 3)", x.send(0, 3), 0);
        Due.is("send(3, 1), three up", x.send(3, 1), 0);
        Due.is("send(0, 4)", x.send(0, 4), 0);
        Due.is("send(8, 6), defined under it alone", Boundary.chain().send(8, 6), 0);
        for (int s = 0; s < 8; s++) {
            Due.is("bare: send(4, " + s + ")", Boundary.bare().send(4, s), 0);
        }
    }

    private static void sendOnEmpty() {
        for (int c = -1; c <= 10; c++) {
            int to = c;
            Boundary.changesNothing("send(" + c + ", 0)", SendTable::new, x -> x.send(to, 0), 0);
        }
    }

    private static void sendClassTooSmall() {
        for (int c : Boundary.CLASS_TOO_SMALL) {
            Boundary.changesNothing("send(" + c + ", 0)", Boundary::five, x -> x.send(c, 0), 0);
            Boundary.changesNothing("send(" + c + ", 7)", Boundary::five, x -> x.send(c, 7), 0);
            Boundary.changesNothing("send(" + c + ", " + -8 * c + ")", Boundary::five, x -> x.send(c, -8 * c), 0);
        }
    }

    private static void sendClassTooLarge() {
        for (int c : Boundary.classTooLarge(5)) {
            Boundary.changesNothing("send(" + c + ", 0)", Boundary::five, x -> x.send(c, 0), 0);
            Boundary.changesNothing("send(" + c + ", 7)", Boundary::five, x -> x.send(c, 7), 0);
        }
        for (int c : Boundary.classTooLarge(10)) {
            Boundary.changesNothing("full: send(" + c + ", 0)", Boundary::chain, x -> x.send(c, 0), 0);
        }
    }

    private static void sendSelectorTooSmall() {
        for (int s : Boundary.SELECTOR_TOO_SMALL) {
            Boundary.changesNothing("send(0, " + s + ")", Boundary::five, x -> x.send(0, s), 0);
            Boundary.changesNothing("send(1, " + s + ")", Boundary::five, x -> x.send(1, s), 0);
        }
    }

    private static void sendSelectorTooLarge() {
        for (int s : Boundary.SELECTOR_TOO_LARGE) {
            Boundary.changesNothing("send(0, " + s + ")", Boundary::five, x -> x.send(0, s), 0);
            Boundary.changesNothing("send(3, " + s + ")", Boundary::five, x -> x.send(3, s), 0);
            Boundary.changesNothing("full: send(9, " + s + ")", Boundary::chain, x -> x.send(9, s), 0);
        }
    }

    private static void superNotUnderstood() {
        SendTable x = Boundary.chain();
        Due.is("sendSuper(9, 6), only its own", x.sendSuper(9, 6), 0);
        Due.is("sendSuper(9, 1), neither", x.sendSuper(9, 1), 0);
        Due.is("sendSuper(8, 6), defined under it alone", x.sendSuper(8, 6), 0);
        Due.is("sendSuper(1, 6), under a root", x.sendSuper(1, 6), 0);
        x.drop(0, 7);
        Due.is("sendSuper(9, 7), dropped", x.sendSuper(9, 7), 0);
    }

    private static void superOfRoot() {
        SendTable x = Boundary.five();
        Due.is("sendSuper(0, 0)", x.sendSuper(0, 0), 0);
        Due.is("sendSuper(0, 7)", x.sendSuper(0, 7), 0);
        Due.is("sendSuper(4, 7), another root", x.sendSuper(4, 7), 0);
        Due.is("sendSuper(1, 0)", x.sendSuper(1, 0), 1);
        x.move(1, NONE);
        Due.is("sendSuper(1, 0), made a root", x.sendSuper(1, 0), 0);
        Due.is("sendSuper(3, 0), under it", x.sendSuper(3, 0), 10);
    }

    private static void superOnEmpty() {
        for (int c = -1; c <= 10; c++) {
            int to = c;
            Boundary.changesNothing("sendSuper(" + c + ", 0)", SendTable::new, x -> x.sendSuper(to, 0), 0);
        }
    }

    private static void superClassTooSmall() {
        for (int c : Boundary.CLASS_TOO_SMALL) {
            Boundary.changesNothing("sendSuper(" + c + ", 0)", Boundary::five, x -> x.sendSuper(c, 0), 0);
            Boundary.changesNothing("sendSuper(" + c + ", 7)", Boundary::five, x -> x.sendSuper(c, 7), 0);
        }
    }

    private static void superClassTooLarge() {
        for (int c : Boundary.classTooLarge(5)) {
            // A class that is not there must not count as one under class 0.
            Boundary.changesNothing("sendSuper(" + c + ", 0)", Boundary::five, x -> x.sendSuper(c, 0), 0);
            Boundary.changesNothing("sendSuper(" + c + ", 7)", Boundary::five, x -> x.sendSuper(c, 7), 0);
        }
        for (int c : Boundary.classTooLarge(10)) {
            Boundary.changesNothing("full: sendSuper(" + c + ", 0)", Boundary::chain, x -> x.sendSuper(c, 0), 0);
        }
    }

    private static void superSelectorTooSmall() {
        for (int s : Boundary.SELECTOR_TOO_SMALL) {
            Boundary.changesNothing("sendSuper(0, " + s + ")", Boundary::five, x -> x.sendSuper(0, s), 0);
            Boundary.changesNothing("sendSuper(3, " + s + ")", Boundary::five, x -> x.sendSuper(3, s), 0);
        }
    }

    private static void superSelectorTooLarge() {
        for (int s : Boundary.SELECTOR_TOO_LARGE) {
            Boundary.changesNothing("sendSuper(1, " + s + ")", Boundary::five, x -> x.sendSuper(1, s), 0);
            Boundary.changesNothing("sendSuper(3, " + s + ")", Boundary::five, x -> x.sendSuper(3, s), 0);
            Boundary.changesNothing("full: sendSuper(9, " + s + ")", Boundary::chain, x -> x.sendSuper(9, s), 0);
        }
    }

    private static void ownerEnds() {
        SendTable x = Boundary.chain();
        Due.is("owner(0, 0)", x.owner(0, 0), 0);
        Due.is("owner(8, 0)", x.owner(8, 0), 0);
        Due.is("owner(9, 0)", x.owner(9, 0), 9);
        Due.is("owner(9, 7)", x.owner(9, 7), 0);
        Due.is("owner(9, 6)", x.owner(9, 6), 9);
        Due.is("define(9, 7, 1000), the number that 0 has", x.define(9, 7, 1000), true);
        Due.is("owner(9, 7)", x.owner(9, 7), 9);
    }

    private static void ownerNotUnderstood() {
        SendTable x = Boundary.five();
        Due.is("owner(4, 0)", x.owner(4, 0), NONE);
        Due.is("owner(3, 3)", x.owner(3, 3), NONE);
        x.drop(0, 0);
        Due.is("owner(0, 0), dropped", x.owner(0, 0), NONE);
        Due.is("owner(2, 0), dropped above it", x.owner(2, 0), NONE);
        Due.is("owner(8, 6), defined under it alone", Boundary.chain().owner(8, 6), NONE);
    }

    private static void ownerOnEmpty() {
        for (int c = -1; c <= 10; c++) {
            int to = c;
            Boundary.changesNothing("owner(" + c + ", 0)", SendTable::new, x -> x.owner(to, 0), NONE);
        }
    }

    private static void ownerClassTooSmall() {
        for (int c : Boundary.CLASS_TOO_SMALL) {
            Boundary.changesNothing("owner(" + c + ", 0)", Boundary::five, x -> x.owner(c, 0), NONE);
            Boundary.changesNothing("owner(" + c + ", 7)", Boundary::five, x -> x.owner(c, 7), NONE);
            Boundary.changesNothing("owner(" + c + ", " + -8 * c + ")", Boundary::five, x -> x.owner(c, -8 * c), NONE);
        }
    }

    private static void ownerClassTooLarge() {
        for (int c : Boundary.classTooLarge(5)) {
            Boundary.changesNothing("owner(" + c + ", 0)", Boundary::five, x -> x.owner(c, 0), NONE);
            Boundary.changesNothing("owner(" + c + ", 7)", Boundary::five, x -> x.owner(c, 7), NONE);
        }
        for (int c : Boundary.classTooLarge(10)) {
            Boundary.changesNothing("full: owner(" + c + ", 0)", Boundary::chain, x -> x.owner(c, 0), NONE);
        }
    }

    private static void ownerSelectorTooSmall() {
        for (int s : Boundary.SELECTOR_TOO_SMALL) {
            Boundary.changesNothing("owner(0, " + s + ")", Boundary::five, x -> x.owner(0, s), NONE);
            Boundary.changesNothing("owner(1, " + s + ")", Boundary::five, x -> x.owner(1, s), NONE);
        }
    }

    private static void ownerSelectorTooLarge() {
        for (int s : Boundary.SELECTOR_TOO_LARGE) {
            Boundary.changesNothing("owner(0, " + s + ")", Boundary::five, x -> x.owner(0, s), NONE);
            Boundary.changesNothing("owner(3, " + s + ")", Boundary::five, x -> x.owner(3, s), NONE);
            Boundary.changesNothing("full: owner(9, " + s + ")", Boundary::chain, x -> x.owner(9, s), NONE);
        }
    }
}
