/** Promises 3, 4, 8, 9 and 10: define, drop, send, sendSuper and owner. */
public final class MethodsTest {
    private static final int NONE = SendTable.NONE;

    public static void main(String[] args) {
        defineEveryCell();
        defineInPlace();
        defineLimits();
        defineRefused();
        dropUncovers();
        dropRefused();
        sendLooksUp();
        sendSuperSkipsItsOwn();
        ownerFollows();
        wrongArguments();
        Due.end();
    }

    private static void defineEveryCell() {
        SendTable x = Due.tree(NONE, 0, 1, 2, 3, 4, 5, 6, 7, 8);
        for (int c = 0; c < 10; c++) {
            for (int s = 0; s < 8; s++) {
                Due.is("define(" + c + ", " + s + ")", x.define(c, s, 1 + c * 8 + s), true);
            }
        }
        for (int c = 0; c < 10; c++) {
            for (int s = 0; s < 8; s++) {
                String at = "(" + c + ", " + s + ")";
                Due.is("send" + at, x.send(c, s), 1 + c * 8 + s);
                Due.is("sendSuper" + at, x.sendSuper(c, s), c == 0 ? 0 : 1 + (c - 1) * 8 + s);
                Due.is("owner" + at, x.owner(c, s), c);
            }
        }
    }

    private static void defineInPlace() {
        SendTable x = Due.tree(NONE, 0);
        Due.is("define(0, 2, 20)", x.define(0, 2, 20), true);
        Due.is("define(0, 2, 21)", x.define(0, 2, 21), true);
        Due.is("send(0, 2)", x.send(0, 2), 21);
        Due.is("send(1, 2)", x.send(1, 2), 21);
        Due.is("define(0, 2, 21) again", x.define(0, 2, 21), true);
        Due.is("drop(0, 2)", x.drop(0, 2), true);
        Due.is("the first one does not come back", x.send(0, 2), 0);
    }

    private static void defineLimits() {
        SendTable x = Due.tree(NONE);
        Due.is("define(0, 0, 1)", x.define(0, 0, 1), true);
        Due.is("send(0, 0)", x.send(0, 0), 1);
        Due.is("define(0, 7, 1000)", x.define(0, 7, 1000), true);
        Due.is("send(0, 7)", x.send(0, 7), 1000);
    }

    private static void defineRefused() {
        SendTable x = Due.tree(NONE, 0, NONE);
        x.define(0, 0, 9);
        x.define(1, 7, 8);
        String before = Due.state(x);
        Due.is("define(0, 0, 0)", x.define(0, 0, 0), false);
        Due.is("define(0, 0, -1)", x.define(0, 0, -1), false);
        Due.is("define(0, 0, 1001)", x.define(0, 0, 1001), false);
        Due.is("define(0, -1, 1)", x.define(0, -1, 1), false);
        Due.is("define(1, -1, 1)", x.define(1, -1, 1), false);
        Due.is("define(0, 8, 1)", x.define(0, 8, 1), false);
        Due.is("define(1, 8, 1)", x.define(1, 8, 1), false);
        Due.is("define(-1, 0, 1)", x.define(-1, 0, 1), false);
        Due.is("define(-1, 8, 1)", x.define(-1, 8, 1), false);
        Due.is("define(3, 0, 1), no class yet", x.define(3, 0, 1), false);
        Due.is("define(9, 0, 1), no class yet", x.define(9, 0, 1), false);
        Due.is("define(10, 0, 1)", x.define(10, 0, 1), false);
        for (int n : Due.NEVER) {
            Due.is("define(" + n + ", 0, 1)", x.define(n, 0, 1), false);
            Due.is("define(0, " + n + ", 1)", x.define(0, n, 1), false);
            Due.is("define(0, 0, " + n + ")", x.define(0, 0, n), false);
        }
        Due.is("after refused defines", Due.state(x), before);
        Due.is("addClass(NONE)", x.addClass(NONE), 3);
        Due.is("a class starts with nothing defined", x.understands(3), 0);
    }

    private static void dropUncovers() {
        SendTable x = Due.tree(NONE, 0, 1);
        x.define(0, 4, 40);
        x.define(1, 4, 41);
        x.define(1, 5, 51);
        Due.is("send(2, 4)", x.send(2, 4), 41);
        Due.is("drop(1, 4)", x.drop(1, 4), true);
        Due.is("send(1, 4) is inherited", x.send(1, 4), 40);
        Due.is("send(2, 4) is inherited", x.send(2, 4), 40);
        Due.is("send(2, 5) stays", x.send(2, 5), 51);
        Due.is("drop(1, 4) again", x.drop(1, 4), false);
        Due.is("drop(0, 4)", x.drop(0, 4), true);
        Due.is("send(2, 4) is gone", x.send(2, 4), 0);
        Due.is("define(1, 4, 42) after drop", x.define(1, 4, 42), true);
        Due.is("send(2, 4) anew", x.send(2, 4), 42);
    }

    private static void dropRefused() {
        SendTable x = Due.tree(NONE, 0);
        x.define(0, 0, 10);
        x.define(0, 7, 17);
        x.define(1, 0, 20);
        String before = Due.state(x);
        Due.is("drop(1, 7), only inherited", x.drop(1, 7), false);
        Due.is("drop(0, 1), not understood", x.drop(0, 1), false);
        Due.is("drop(0, 8)", x.drop(0, 8), false);
        Due.is("drop(0, -1)", x.drop(0, -1), false);
        Due.is("drop(1, -1)", x.drop(1, -1), false);
        Due.is("drop(-1, 0)", x.drop(-1, 0), false);
        Due.is("drop(-1, 8)", x.drop(-1, 8), false);
        Due.is("drop(2, 0)", x.drop(2, 0), false);
        Due.is("drop(10, 0)", x.drop(10, 0), false);
        for (int n : Due.NEVER) {
            Due.is("drop(" + n + ", 0)", x.drop(n, 0), false);
            Due.is("drop(0, " + n + ")", x.drop(0, n), false);
        }
        Due.is("after refused drops", Due.state(x), before);
    }

    private static void sendLooksUp() {
        SendTable x = Due.tree(NONE, 0, 1, 0);
        x.define(0, 1, 100);
        Due.is("send(2, 1), two up", x.send(2, 1), 100);
        x.define(1, 1, 200);
        Due.is("send(2, 1), the nearest", x.send(2, 1), 200);
        Due.is("send(3, 1), beside", x.send(3, 1), 100);
        Due.is("send(0, 1), above", x.send(0, 1), 100);
        x.define(2, 1, 300);
        Due.is("send(2, 1), its own", x.send(2, 1), 300);
        Due.is("send(1, 1), not what is under it", x.send(1, 1), 200);
        Due.is("send(2, 0), another selector", x.send(2, 0), 0);
    }

    private static void sendSuperSkipsItsOwn() {
        SendTable x = Due.tree(NONE, 0, 1, 2);
        x.define(0, 1, 100);
        x.define(2, 1, 300);
        x.define(2, 2, 301);
        Due.is("sendSuper(3, 1)", x.sendSuper(3, 1), 300);
        Due.is("sendSuper(2, 1), through class 1", x.sendSuper(2, 1), 100);
        Due.is("sendSuper(1, 1)", x.sendSuper(1, 1), 100);
        Due.is("sendSuper(0, 1), a root", x.sendSuper(0, 1), 0);
        Due.is("sendSuper(2, 2), only its own", x.sendSuper(2, 2), 0);
        Due.is("sendSuper(3, 2)", x.sendSuper(3, 2), 301);
        x.move(2, NONE);
        Due.is("sendSuper(2, 1), made a root", x.sendSuper(2, 1), 0);
        Due.is("sendSuper(3, 1) stays", x.sendSuper(3, 1), 300);
    }

    private static void ownerFollows() {
        SendTable x = Due.tree(NONE, 0, 1);
        Due.is("owner(2, 6), none", x.owner(2, 6), NONE);
        x.define(0, 6, 60);
        Due.is("owner(2, 6)", x.owner(2, 6), 0);
        Due.is("owner(0, 6)", x.owner(0, 6), 0);
        // The same number as above: what owns a method is a class, not the number.
        x.define(1, 6, 60);
        Due.is("owner(2, 6), the nearest", x.owner(2, 6), 1);
        Due.is("owner(0, 6), above", x.owner(0, 6), 0);
        x.drop(0, 6);
        Due.is("owner(0, 6), dropped", x.owner(0, 6), NONE);
        Due.is("owner(1, 6)", x.owner(1, 6), 1);
    }

    private static void wrongArguments() {
        SendTable x = Due.tree(NONE, 0, 1, 2, 3, 4, 5, 6, 7, 8);
        for (int s = 0; s < 8; s++) {
            x.define(0, s, 1 + s);
            x.define(9, s, 900 + s);
        }
        for (int n : new int[] {-1, 10, 11, 80, Due.NEVER[0], Due.NEVER[2], Due.NEVER[4], Due.NEVER[5]}) {
            Due.is("send(" + n + ", 0)", x.send(n, 0), 0);
            Due.is("sendSuper(" + n + ", 0)", x.sendSuper(n, 0), 0);
            Due.is("owner(" + n + ", 0)", x.owner(n, 0), NONE);
            Due.is("send(" + n + ", 8)", x.send(n, 8), 0);
        }
        for (int n : new int[] {-1, 8, 9, 10, 80, Due.NEVER[0], Due.NEVER[2], Due.NEVER[4], Due.NEVER[5]}) {
            for (int c = 0; c < 10; c += 3) {
                Due.is("send(" + c + ", " + n + ")", x.send(c, n), 0);
                Due.is("sendSuper(" + c + ", " + n + ")", x.sendSuper(c, n), 0);
                Due.is("owner(" + c + ", " + n + ")", x.owner(c, n), NONE);
            }
        }
        SendTable y = Due.tree(NONE);
        y.define(0, 0, 1);
        Due.is("send(1, 0), no class yet", y.send(1, 0), 0);
        Due.is("sendSuper(1, 0), no class yet", y.sendSuper(1, 0), 0);
        Due.is("owner(1, 0), no class yet", y.owner(1, 0), NONE);
    }
}
