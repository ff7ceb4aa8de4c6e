/** The boundary cases of promises 11 to 15, a test for each. */
public final class BoundarySetsTest {
    private static final int NONE = SendTable.NONE;

    public static void main(String[] args) {
        Due.test("11: bit 0 to bit 7, one at a time", BoundarySetsTest::understandsOne);
        Due.test("11: all selectors", BoundarySetsTest::understandsAll);
        Due.test("11: no selector", BoundarySetsTest::understandsNothing);
        Due.test("11: no class c, none being there", BoundarySetsTest::understandsOnEmpty);
        Due.test("11: no class c, too small", BoundarySetsTest::understandsTooSmall);
        Due.test("11: no class c, too large", BoundarySetsTest::understandsTooLarge);
        Due.test("12: bit 0 to bit 9, one at a time", BoundarySetsTest::heirsOne);
        Due.test("12: all classes", BoundarySetsTest::heirsAll);
        Due.test("12: owned by another class with the same number", BoundarySetsTest::heirsSameNumber);
        Due.test("12: c defines nothing for s, never did", BoundarySetsTest::heirsNeverDefined);
        Due.test("12: c defines nothing for s, but understands it", BoundarySetsTest::heirsInherited);
        Due.test("12: c defines nothing for s, dropped", BoundarySetsTest::heirsDropped);
        Due.test("12: no class c, none being there", BoundarySetsTest::heirsOnEmpty);
        Due.test("12: no class c, too small", BoundarySetsTest::heirsClassTooSmall);
        Due.test("12: no class c, too large", BoundarySetsTest::heirsClassTooLarge);
        Due.test("12: s is not 0 .. 7, too small", BoundarySetsTest::heirsSelectorTooSmall);
        Due.test("12: s is not 0 .. 7, too large", BoundarySetsTest::heirsSelectorTooLarge);
        Due.test("13: t is not s", BoundarySetsTest::apartNeverItself);
        Due.test("13: every pair of selectors", BoundarySetsTest::apartPairs);
        Due.test("13: no class understands s", BoundarySetsTest::apartNotUnderstood);
        Due.test("13: no classes", BoundarySetsTest::apartOnEmpty);
        Due.test("13: one class understands all", BoundarySetsTest::apartAllTogether);
        Due.test("13: s is not 0 .. 7, too small", BoundarySetsTest::apartTooSmall);
        Due.test("13: s is not 0 .. 7, too large", BoundarySetsTest::apartTooLarge);
        Due.test("14: not necessarily the same class", BoundarySetsTest::crowdOfSeveralClasses);
        Due.test("14: every two, not most of them", BoundarySetsTest::crowdLacksOnePair);
        Due.test("14: a single selector", BoundarySetsTest::crowdOfOne);
        Due.test("14: all eight", BoundarySetsTest::crowdOfAll);
        Due.test("14: no class understands any", BoundarySetsTest::crowdOfNone);
        Due.test("15: any two have different ones", BoundarySetsTest::coloursOfPairs);
        Due.test("15: more than the crowd", BoundarySetsTest::coloursOfRing);
        Due.test("15: least, whatever the order", BoundarySetsTest::coloursLeast);
        Due.test("15: a single selector", BoundarySetsTest::coloursOfOne);
        Due.test("15: all eight", BoundarySetsTest::coloursOfAll);
        Due.test("15: no class understands any", BoundarySetsTest::coloursOfNone);
        Due.end();
    }

    private static void understandsOne() {
        for (int s = 0; s < 8; s++) {
            SendTable x = Boundary.filled(new SendTable());
            x.move(1, 0);
            x.define(0, s, 1);
            x.define(9, s, 1000);
            Due.is("understands(0), with " + s, x.understands(0), 1 << s);
            Due.is("understands(1), under 0", x.understands(1), 1 << s);
            Due.is("understands(2), beside", x.understands(2), 0);
            Due.is("understands(9)", x.understands(9), 1 << s);
        }
    }

    private static void understandsAll() {
        SendTable x = Due.tree(NONE, 0, 1, 2, 3, 4, 5, 6, 7, 8);
        for (int s = 0; s < 8; s++) {
            x.define(s, s, 1);
        }
        for (int c = 0; c < 8; c++) {
            Due.is("understands(" + c + ")", x.understands(c), (2 << c) - 1);
        }
        Due.is("understands(8)", x.understands(8), 255);
        Due.is("understands(9)", x.understands(9), 255);
    }

    private static void understandsNothing() {
        for (int c = 0; c < 5; c++) {
            int asked = c;
            Boundary.changesNothing("bare: understands(" + c + ")", Boundary::bare, x -> x.understands(asked), 0);
        }
        SendTable x = Boundary.five();
        x.drop(4, 3);
        x.drop(4, 7);
        Due.is("understands(4), all dropped", x.understands(4), 0);
    }

    private static void understandsOnEmpty() {
        for (int c = -1; c <= 10; c++) {
            int asked = c;
            Boundary.changesNothing("understands(" + c + ")", SendTable::new, x -> x.understands(asked), 0);
        }
    }

    private static void understandsTooSmall() {
        for (int c : Boundary.CLASS_TOO_SMALL) {
            Boundary.changesNothing("understands(" + c + ")", Boundary::five, x -> x.understands(c), 0);
        }
    }

    private static void understandsTooLarge() {
        for (int c : Boundary.classTooLarge(5)) {
            Boundary.changesNothing("understands(" + c + ")", Boundary::five, x -> x.understands(c), 0);
        }
        for (int c : Boundary.classTooLarge(10)) {
            Boundary.changesNothing("full: understands(" + c + ")", Boundary::chain, x -> x.understands(c), 0);
        }
    }

    private static void heirsOne() {
        SendTable x = Boundary.filled(new SendTable());
        for (int c = 0; c < 10; c++) {
            x.define(c, 0, 1);
            x.define(c, 7, 1000);
        }
        for (int c = 0; c < 10; c++) {
            Due.is("heirs(" + c + ", 0)", x.heirs(c, 0), 1 << c);
            Due.is("heirs(" + c + ", 7)", x.heirs(c, 7), 1 << c);
        }
    }

    private static void heirsAll() {
        SendTable x = Boundary.chain();
        Due.is("heirs(0, 7)", x.heirs(0, 7), 1023);
        Due.is("heirs(0, 0), all but the last", x.heirs(0, 0), 511);
        Due.is("heirs(9, 0), the last alone", x.heirs(9, 0), 512);
        Due.is("heirs(9, 6)", x.heirs(9, 6), 512);
        x.drop(9, 0);
        Due.is("heirs(0, 0), the last again", x.heirs(0, 0), 1023);
    }

    private static void heirsSameNumber() {
        SendTable x = Boundary.chain();
        x.define(5, 7, 1000);
        Due.is("heirs(0, 7)", x.heirs(0, 7), 0b0000011111);
        Due.is("heirs(5, 7)", x.heirs(5, 7), 0b1111100000);
    }

    private static void heirsNeverDefined() {
        Boundary.changesNothing("heirs(4, 0)", Boundary::five, x -> x.heirs(4, 0), 0);
        Boundary.changesNothing("heirs(0, 3)", Boundary::five, x -> x.heirs(0, 3), 0);
        Boundary.changesNothing("heirs(0, 1), defined nowhere", Boundary::five, x -> x.heirs(0, 1), 0);
        Boundary.changesNothing("heirs(8, 6), defined under it", Boundary::chain, x -> x.heirs(8, 6), 0);
    }

    private static void heirsInherited() {
        Boundary.changesNothing("heirs(1, 7)", Boundary::five, x -> x.heirs(1, 7), 0);
        Boundary.changesNothing("heirs(2, 0)", Boundary::five, x -> x.heirs(2, 0), 0);
        Boundary.changesNothing("heirs(9, 7), nine up", Boundary::chain, x -> x.heirs(9, 7), 0);
    }

    private static void heirsDropped() {
        SendTable x = Boundary.five();
        x.drop(1, 0);
        x.drop(4, 3);
        Due.is("heirs(1, 0)", x.heirs(1, 0), 0);
        Due.is("heirs(4, 3)", x.heirs(4, 3), 0);
        Due.is("heirs(0, 0), with those of 1", x.heirs(0, 0), 0b01111);
    }

    private static void heirsOnEmpty() {
        for (int c = -1; c <= 10; c++) {
            int asked = c;
            Boundary.changesNothing("heirs(" + c + ", 0)", SendTable::new, x -> x.heirs(asked, 0), 0);
        }
    }

    private static void heirsClassTooSmall() {
        for (int c : Boundary.CLASS_TOO_SMALL) {
            Boundary.changesNothing("heirs(" + c + ", 0)", Boundary::five, x -> x.heirs(c, 0), 0);
            // Nobody understands 1, so a class's owner is NONE: it must not count as an heir of -1.
            Boundary.changesNothing("heirs(" + c + ", 1)", Boundary::five, x -> x.heirs(c, 1), 0);
            Boundary.changesNothing("heirs(" + c + ", " + -8 * c + ")", Boundary::five, x -> x.heirs(c, -8 * c), 0);
        }
    }

    private static void heirsClassTooLarge() {
        for (int c : Boundary.classTooLarge(5)) {
            Boundary.changesNothing("heirs(" + c + ", 0)", Boundary::five, x -> x.heirs(c, 0), 0);
            Boundary.changesNothing("heirs(" + c + ", 1)", Boundary::five, x -> x.heirs(c, 1), 0);
        }
        for (int c : Boundary.classTooLarge(10)) {
            Boundary.changesNothing("full: heirs(" + c + ", 0)", Boundary::chain, x -> x.heirs(c, 0), 0);
        }
    }

    private static void heirsSelectorTooSmall() {
        for (int s : Boundary.SELECTOR_TOO_SMALL) {
            Boundary.changesNothing("heirs(0, " + s + ")", Boundary::five, x -> x.heirs(0, s), 0);
            Boundary.changesNothing("heirs(1, " + s + ")", Boundary::five, x -> x.heirs(1, s), 0);
        }
    }

    private static void heirsSelectorTooLarge() {
        for (int s : Boundary.SELECTOR_TOO_LARGE) {
            Boundary.changesNothing("heirs(0, " + s + ")", Boundary::five, x -> x.heirs(0, s), 0);
            Boundary.changesNothing("heirs(4, " + s + ")", Boundary::five, x -> x.heirs(4, s), 0);
            Boundary.changesNothing("full: heirs(9, " + s + ")", Boundary::chain, x -> x.heirs(9, s), 0);
        }
    }

    private static void apartNeverItself() {
        for (int s = 0; s < 8; s++) {
            int bit = 1 << s;
            Due.is("apart(" + s + "), understood by none", new SendTable().apart(s), 255 - bit);
            Due.is("apart(" + s + "), understood alone", Due.roots(bit).apart(s), 255 - bit);
            Due.is("apart(" + s + "), understood by others", Due.roots(255 - bit).apart(s), 255 - bit);
        }
    }

    private static void apartPairs() {
        for (int s = 0; s < 8; s++) {
            for (int t = 0; t < s; t++) {
                int pair = 1 << s | 1 << t;
                SendTable one = Due.roots(pair);
                Due.is("apart(" + s + "), with " + t, one.apart(s), 255 - pair);
                Due.is("apart(" + t + "), with " + s, one.apart(t), 255 - pair);
                // In two classes, neither of which understands both, they are apart.
                SendTable two = Due.roots(1 << s, 1 << t);
                Due.is("apart(" + s + "), " + t + " in another class", two.apart(s), 255 - (1 << s));
                Due.is("apart(" + t + "), " + s + " in another class", two.apart(t), 255 - (1 << t));
            }
        }
    }

    private static void apartNotUnderstood() {
        SendTable x = Boundary.five();
        Due.is("apart(1)", x.apart(1), 0b11111101);
        Due.is("apart(6)", x.apart(6), 0b10111111);
        x.drop(4, 3);
        Due.is("apart(3), dropped", x.apart(3), 0b11110111);
        Due.is("apart(7)", x.apart(7), 0b01111110);
    }

    private static void apartOnEmpty() {
        for (int s = 0; s < 8; s++) {
            int asked = s;
            int others = 255 - (1 << s);
            Boundary.changesNothing("apart(" + s + ")", SendTable::new, x -> x.apart(asked), others);
            Boundary.changesNothing("bare: apart(" + s + ")", Boundary::bare, x -> x.apart(asked), others);
        }
    }

    private static void apartAllTogether() {
        SendTable last = Due.roots(0, 0, 0, 0, 0, 0, 0, 0, 0, 255);
        SendTable first = Due.roots(255, 0, 0, 0, 0, 0, 0, 0, 0, 0);
        for (int s = 0; s < 8; s++) {
            Due.is("apart(" + s + "), in class 9", last.apart(s), 0);
            Due.is("apart(" + s + "), in class 0", first.apart(s), 0);
        }
    }

    private static void apartTooSmall() {
        for (int s : Boundary.SELECTOR_TOO_SMALL) {
            Boundary.changesNothing("apart(" + s + ")", Boundary::five, x -> x.apart(s), 0);
            Boundary.changesNothing("no classes: apart(" + s + ")", SendTable::new, x -> x.apart(s), 0);
        }
    }

    private static void apartTooLarge() {
        for (int s : Boundary.SELECTOR_TOO_LARGE) {
            Boundary.changesNothing("apart(" + s + ")", Boundary::five, x -> x.apart(s), 0);
            Boundary.changesNothing("no classes: apart(" + s + ")", SendTable::new, x -> x.apart(s), 0);
        }
    }

    private static void crowdOfSeveralClasses() {
        Due.is("crowd(), three classes", Due.roots(0b011, 0b110, 0b101).crowd(), 3);
        Due.is("crowd(), 0, 6 and 7", Due.roots(0b11000000, 0b01000001, 0b10000001).crowd(), 3);
        SendTable ten = Due.roots(0b00011, 0b00101, 0b01001, 0b10001, 0b00110, 0b01010, 0b10010, 0b01100, 0b10100,
            0b11000);
        Due.is("crowd(), five of ten classes", ten.crowd(), 5);
        ten.drop(9, 3);
        Due.is("crowd(), a pair less", ten.crowd(), 4);
    }

    private static void crowdLacksOnePair() {
        Due.is("crowd(), two of three pairs", Due.roots(0b011, 0b110).crowd(), 2);
        Due.is("crowd(), all but 0 with 7", Due.roots(0b01111111, 0b11111110).crowd(), 7);
        Due.is("crowd(), all but 3 with 4", Due.roots(0b11101111, 0b11110111).crowd(), 7);
    }

    private static void crowdOfOne() {
        for (int s = 0; s < 8; s++) {
            Due.is("crowd(), " + s + " alone", Due.roots(1 << s).crowd(), 1);
            Due.is("crowd(), " + s + " in class 9", Due.roots(0, 0, 0, 0, 0, 0, 0, 0, 0, 1 << s).crowd(), 1);
        }
        Due.is("crowd(), all, each in a class", Due.roots(1, 2, 4, 8, 16, 32, 64, 128).crowd(), 1);
    }

    private static void crowdOfAll() {
        Boundary.changesNothing("crowd()", () -> Due.roots(255), SendTable::crowd, 8);
        Due.is("crowd(), six classes",
            Due.roots(0b00001111, 0b11110000, 0b00110011, 0b11001100, 0b11000011, 0b00111100).crowd(), 8);
    }

    private static void crowdOfNone() {
        Boundary.changesNothing("no classes: crowd()", SendTable::new, SendTable::crowd, 0);
        Boundary.changesNothing("bare: crowd()", Boundary::bare, SendTable::crowd, 0);
        SendTable x = Due.roots(255);
        for (int s = 0; s < 8; s++) {
            Due.is("crowd(), before drop", x.crowd(), 8 - s);
            x.drop(0, s);
        }
        Due.is("crowd(), all dropped", x.crowd(), 0);
    }

    private static void coloursOfPairs() {
        for (int s = 0; s < 8; s++) {
            for (int t = 0; t < s; t++) {
                Due.is("colours(), " + s + " with " + t, Due.roots(1 << s | 1 << t).colours(), 2);
                Due.is("colours(), " + s + " and " + t + " apart", Due.roots(1 << s, 1 << t).colours(), 1);
            }
        }
    }

    private static void coloursOfRing() {
        Due.is("colours(), ring of 5", Due.roots(0b00011, 0b00110, 0b01100, 0b11000, 0b10001).colours(), 3);
        Due.is("colours(), ring of 5 and three more, with all",
            Due.roots(0b11100011, 0b11100110, 0b11101100, 0b11111000, 0b11110001).colours(), 6);
    }

    private static void coloursLeast() {
        // Given in the order of their numbers, each the first colour that is free, this takes four.
        Due.is("colours(), a tree",
            Due.roots(0b00010001, 0b00100010, 0b01000100, 0b10001000, 0b01010000, 0b10100000, 0b11000000).colours(), 2);
        Due.is("colours(), path 0 2 3 1", Due.roots(0b0101, 0b1100, 0b1010).colours(), 2);
        Due.is("colours(), all but 0 with 7", Due.roots(0b01111111, 0b11111110).colours(), 7);
    }

    private static void coloursOfOne() {
        for (int s = 0; s < 8; s++) {
            Due.is("colours(), " + s + " alone", Due.roots(1 << s).colours(), 1);
            Due.is("colours(), " + s + " in class 9", Due.roots(0, 0, 0, 0, 0, 0, 0, 0, 0, 1 << s).colours(), 1);
        }
        Due.is("colours(), all, each in a class", Due.roots(1, 2, 4, 8, 16, 32, 64, 128).colours(), 1);
    }

    private static void coloursOfAll() {
        Boundary.changesNothing("colours()", () -> Due.roots(255), SendTable::colours, 8);
        Due.is("colours(), six classes",
            Due.roots(0b00001111, 0b11110000, 0b00110011, 0b11001100, 0b11000011, 0b00111100).colours(), 8);
    }

    private static void coloursOfNone() {
        Boundary.changesNothing("no classes: colours()", SendTable::new, SendTable::colours, 0);
        Boundary.changesNothing("bare: colours()", Boundary::bare, SendTable::colours, 0);
        SendTable x = Due.roots(255);
        for (int s = 0; s < 8; s++) {
            Due.is("colours(), before drop", x.colours(), 8 - s);
            x.drop(0, s);
        }
        Due.is("colours(), all dropped", x.colours(), 0);
    }
}
