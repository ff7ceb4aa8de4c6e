/** Promises 11, 12 and 13: understands, heirs and apart. */
public final class SetsTest {
    private static final int NONE = SendTable.NONE;

    public static void main(String[] args) {
        understandsGathers();
        understandsNoClass();
        heirsStopAtNearerOnes();
        heirsRefused();
        heirsOfEqualNumbers();
        apartOfUnderstood();
        apartOfNotUnderstood();
        apartThroughInheritance();
        apartWrongSelector();
        Due.end();
    }

    private static void understandsGathers() {
        SendTable x = Due.tree(NONE, 0, 1, 0);
        x.define(0, 0, 1);
        x.define(0, 7, 1);
        x.define(1, 3, 1);
        x.define(1, 7, 2);
        x.define(3, 5, 1);
        Due.is("understands(0)", x.understands(0), 0b10000001);
        Due.is("understands(1)", x.understands(1), 0b10001001);
        Due.is("understands(2)", x.understands(2), 0b10001001);
        Due.is("understands(3)", x.understands(3), 0b10100001);
        x.drop(0, 7);
        Due.is("understands(2) has its own still", x.understands(2), 0b10001001);
        Due.is("understands(3) lost one", x.understands(3), 0b00100001);
        for (int s = 0; s < 8; s++) {
            x.define(0, s, 5);
        }
        Due.is("understands(2), all", x.understands(2), 255);
    }

    private static void understandsNoClass() {
        SendTable x = Due.tree(NONE, 0);
        x.define(0, 0, 1);
        Due.is("understands(-1)", x.understands(-1), 0);
        Due.is("understands(2)", x.understands(2), 0);
        Due.is("understands(10)", x.understands(10), 0);
        for (int n : Due.NEVER) {
            Due.is("understands(" + n + ")", x.understands(n), 0);
        }
    }

    private static void heirsStopAtNearerOnes() {
        SendTable x = Due.tree(NONE, 0, 0, 1, 1, 3, 2, NONE, 7, 6);
        x.define(0, 2, 10);
        Due.is("heirs(0, 2), all under it", x.heirs(0, 2), 0b1001111111);
        x.define(1, 2, 11);
        Due.is("heirs(0, 2)", x.heirs(0, 2), 0b1001000101);
        Due.is("heirs(1, 2)", x.heirs(1, 2), 0b0000111010);
        x.define(5, 2, 12);
        Due.is("heirs(1, 2) less 5", x.heirs(1, 2), 0b0000011010);
        Due.is("heirs(5, 2), itself alone", x.heirs(5, 2), 0b0000100000);
        x.drop(1, 2);
        Due.is("heirs(1, 2), dropped", x.heirs(1, 2), 0);
        Due.is("heirs(0, 2) grown again", x.heirs(0, 2), 0b1001011111);
        x.move(7, 9);
        Due.is("heirs(0, 2) with the moved", x.heirs(0, 2), 0b1111011111);
    }

    private static void heirsRefused() {
        SendTable x = Due.tree(NONE, 0);
        x.define(0, 0, 1);
        x.define(0, 7, 1);
        Due.is("heirs(1, 0), only inherited", x.heirs(1, 0), 0);
        Due.is("heirs(0, 1), not defined", x.heirs(0, 1), 0);
        Due.is("heirs(2, 0), no class", x.heirs(2, 0), 0);
        // A class that owns nothing must not be told as heir of NONE.
        Due.is("heirs(NONE, 1)", x.heirs(NONE, 1), 0);
        Due.is("heirs(NONE, 8)", x.heirs(NONE, 8), 0);
        Due.is("heirs(10, 0)", x.heirs(10, 0), 0);
        Due.is("heirs(0, 8)", x.heirs(0, 8), 0);
        Due.is("heirs(0, -1)", x.heirs(0, -1), 0);
        Due.is("heirs(1, -1)", x.heirs(1, -1), 0);
        for (int n : Due.NEVER) {
            Due.is("heirs(" + n + ", 0)", x.heirs(n, 0), 0);
            Due.is("heirs(0, " + n + ")", x.heirs(0, n), 0);
        }
    }

    private static void heirsOfEqualNumbers() {
        SendTable x = Due.tree(NONE, 0, 1, NONE);
        x.define(0, 0, 77);
        x.define(1, 0, 77);
        x.define(3, 0, 77);
        Due.is("heirs(0, 0)", x.heirs(0, 0), 0b0001);
        Due.is("heirs(1, 0)", x.heirs(1, 0), 0b0110);
        Due.is("heirs(3, 0)", x.heirs(3, 0), 0b1000);
    }

    private static void apartOfUnderstood() {
        SendTable x = Due.roots(0b00000111, 0b00001100, 0b10000000, 0b01000001);
        Due.is("apart(0)", x.apart(0), 0b10111000);
        Due.is("apart(1)", x.apart(1), 0b11111000);
        Due.is("apart(2)", x.apart(2), 0b11110000);
        Due.is("apart(3)", x.apart(3), 0b11110011);
        Due.is("apart(6)", x.apart(6), 0b10111110);
        Due.is("apart(7), understood alone", x.apart(7), 0b01111111);
    }

    private static void apartOfNotUnderstood() {
        SendTable x = Due.roots(0b00000111, 0b11000000);
        Due.is("apart(4)", x.apart(4), 0b11101111);
        SendTable y = new SendTable();
        for (int s = 0; s < 8; s++) {
            Due.is("no class: apart(" + s + ")", y.apart(s), 255 & ~(1 << s));
        }
        SendTable z = Due.roots(0b11111111);
        for (int s = 0; s < 8; s++) {
            Due.is("all together: apart(" + s + ")", z.apart(s), 0);
        }
    }

    private static void apartThroughInheritance() {
        SendTable x = Due.tree(NONE, 0, 0);
        x.define(0, 0, 1);
        x.define(1, 1, 1);
        x.define(2, 2, 1);
        Due.is("apart(0)", x.apart(0), 0b11111000);
        Due.is("apart(1), beside 2", x.apart(1), 0b11111100);
        x.move(2, 1);
        Due.is("apart(1), above 2", x.apart(1), 0b11111000);
        x.drop(0, 0);
        Due.is("apart(1), 0 dropped", x.apart(1), 0b11111001);
        x.move(2, NONE);
        Due.is("apart(2), alone", x.apart(2), 0b11111011);
    }

    private static void apartWrongSelector() {
        SendTable x = Due.roots(0b00000111);
        Due.is("apart(-1)", x.apart(-1), 0);
        Due.is("apart(8)", x.apart(8), 0);
        Due.is("apart(32), a shift that wraps", x.apart(32), 0);
        for (int n : Due.NEVER) {
            Due.is("apart(" + n + ")", x.apart(n), 0);
        }
    }
}
