/** Promises 14 and 15: crowd and colours, on graphs whose two numbers are known. */
public final class GraphTest {
    private static final int NONE = SendTable.NONE;

    public static void main(String[] args) {
        nothingUnderstood();
        singleSelectors();
        wholeSets();
        pairsOfDifferentClasses();
        rings();
        moreColoursThanCrowd();
        badOrders();
        throughInheritance();
        askingChangesNothing();
        eachAskedAlone();
        Due.end();
    }

    private static void both(String what, SendTable x, int crowd, int colours) {
        Due.is(what + ": crowd()", x.crowd(), crowd);
        Due.is(what + ": colours()", x.colours(), colours);
    }

    private static int set(int... selectors) {
        int set = 0;
        for (int s : selectors) {
            set |= 1 << s;
        }
        return set;
    }

    private static void nothingUnderstood() {
        both("no class", new SendTable(), 0, 0);
        both("classes without methods", Due.tree(NONE, 0, 1, NONE), 0, 0);
        SendTable x = Due.roots(set(3));
        x.drop(0, 3);
        both("all dropped", x, 0, 0);
    }

    private static void singleSelectors() {
        for (int s = 0; s < 8; s++) {
            both("selector " + s + " alone", Due.roots(set(s)), 1, 1);
        }
        both("eight apart", Due.roots(1, 2, 4, 8, 16, 32, 64, 128), 1, 1);
    }

    private static void wholeSets() {
        for (int n = 1; n <= 8; n++) {
            both("the first " + n + " in one class", Due.roots((1 << n) - 1), n, n);
            both("the last " + n + " in one class", Due.roots(255 & ~(255 >> n)), n, n);
        }
        both("two sets that meet", Due.roots(set(0, 1, 2, 3), set(3, 4, 5, 6, 7)), 5, 5);
        both("two sets apart", Due.roots(set(0, 1, 2), set(4, 5)), 3, 3);
    }

    private static void pairsOfDifferentClasses() {
        both("a triangle of three classes", Due.roots(set(0, 1), set(1, 2), set(0, 2)), 3, 3);
        both("four of six classes",
            Due.roots(set(2, 4), set(2, 5), set(2, 7), set(4, 5), set(4, 7), set(5, 7)), 4, 4);
        both("five of ten classes",
            Due.roots(set(0, 2), set(0, 4), set(0, 6), set(0, 7), set(2, 4), set(2, 6), set(2, 7),
                set(4, 6), set(4, 7), set(6, 7)), 5, 5);
        both("eight of six classes", Due.roots(set(0, 1, 2, 3), set(4, 5, 6, 7), set(0, 1, 4, 5),
            set(2, 3, 6, 7), set(0, 1, 6, 7), set(2, 3, 4, 5)), 8, 8);
    }

    private static SendTable ring(int n) {
        int[] sets = new int[n];
        for (int i = 0; i < n; i++) {
            sets[i] = set(i, (i + 1) % n);
        }
        return Due.roots(sets);
    }

    private static void rings() {
        both("ring of 3", ring(3), 3, 3);
        both("ring of 4", ring(4), 2, 2);
        both("ring of 5", ring(5), 2, 3);
        both("ring of 6", ring(6), 2, 2);
        both("ring of 7", ring(7), 2, 3);
        both("ring of 8", ring(8), 2, 2);
    }

    private static void moreColoursThanCrowd() {
        int[] wheel = new int[5];
        int[] twoHubs = new int[5];
        int[] threeHubs = new int[5];
        for (int i = 0; i < 5; i++) {
            wheel[i] = set(i, (i + 1) % 5, 7);
            twoHubs[i] = set(i, (i + 1) % 5, 6, 7);
            threeHubs[i] = set(i, (i + 1) % 5, 5, 6, 7);
        }
        both("wheel of five spokes", Due.roots(wheel), 3, 4);
        both("ring of 5 and two hubs", Due.roots(twoHubs), 4, 5);
        both("ring of 5 and three hubs", Due.roots(threeHubs), 5, 6);
        int[] farSeven = new int[7];
        for (int i = 0; i < 7; i++) {
            farSeven[i] = set(i, (i + 2) % 7, (i + 4) % 7);
        }
        both("ring of 7 turned round", Due.roots(farSeven), 3, 4);
        both("spindle of seven", Due.roots(set(0, 1, 2), set(1, 2, 3), set(0, 4, 5), set(4, 5, 6), set(3, 6)), 3, 4);
    }

    private static void badOrders() {
        both("path 0 2 3 1", Due.roots(set(0, 2), set(2, 3), set(3, 1)), 2, 2);
        both("crown of six", Due.roots(set(0, 3), set(0, 5), set(2, 1), set(2, 5), set(4, 1), set(4, 3)), 2, 2);
        both("a tree that greed spends four on",
            Due.roots(set(0, 4), set(1, 5), set(2, 6), set(3, 7), set(4, 6), set(5, 7), set(6, 7)), 2, 2);
        both("a star", Due.roots(set(7, 0), set(7, 1), set(7, 2), set(7, 3), set(7, 4), set(7, 5), set(7, 6)), 2, 2);
    }

    private static void throughInheritance() {
        SendTable x = Due.tree(NONE, 0, 0, 1);
        x.define(0, 0, 1);
        x.define(1, 1, 1);
        x.define(2, 2, 1);
        x.define(3, 3, 1);
        both("two branches", x, 3, 3);
        x.move(2, 3);
        both("one branch", x, 4, 4);
        x.define(2, 0, 9);
        both("one of them defined again", x, 4, 4);
        x.drop(1, 1);
        both("one less", x, 3, 3);
        x.move(2, NONE);
        both("a root of its own, with 0 and 2", x, 2, 2);
    }

    private static void askingChangesNothing() {
        SendTable x = ring(5);
        String before = Due.state(x);
        for (int i = 0; i < 3; i++) {
            both("asked again", x, 2, 3);
        }
        Due.is("asking changes nothing", Due.state(x), before);
        x.drop(0, 0);
        both("ring of 5 less a side", x, 2, 2);
    }

    /** Neither answer may lean on the other one having been asked for. */
    private static void eachAskedAlone() {
        SendTable x = ring(5);
        Due.is("only colours()", x.colours(), 3);
        x.drop(0, 0);
        Due.is("only colours(), after a drop", x.colours(), 2);
        SendTable y = ring(3);
        Due.is("only crowd()", y.crowd(), 3);
        y.drop(0, 0);
        Due.is("only crowd(), after a drop", y.crowd(), 2);
    }
}
