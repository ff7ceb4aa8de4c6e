import java.util.Arrays;

/** Promises 14 and 15: crowd is the largest and colours the least, not only what a good guess would find. */
public final class LargestLeastTest {
    private static final int NUMBERINGS = 300;

    // The same numberings on every machine, so a failure can be run again.
    private static long seed = 20261116L;

    public static void main(String[] args) {
        Due.test("every graph of five selectors", LargestLeastTest::everyGraphOfFive);
        Due.test("known graphs in many numberings", LargestLeastTest::knownGraphs);
        Due.test("graphs that mislead the choice of the most hemmed in", LargestLeastTest::misleadingGraphs);
        Due.end();
    }

    /** A class for each side and for each selector without one: never more than ten. */
    private static void everyGraphOfFive() {
        for (int graph = 0; graph < 1 << 10; graph++) {
            int[] sets = setsOfFive(graph);
            int shift = graph % 4;
            int[] shifted = new int[sets.length];
            for (int i = 0; i < sets.length; i++) {
                shifted[i] = sets[i] << shift;
            }
            SendTable x = Due.roots(shifted);
            Due.is("graph " + graph + ": crowd()", x.crowd(), largestOfFive(sets));
            Due.is("graph " + graph + ": colours()", x.colours(), leastOfFive(sets));
        }
    }

    private static int[] setsOfFive(int graph) {
        int[] found = new int[15];
        int n = 0;
        int side = 0;
        int met = 0;
        for (int s = 0; s < 5; s++) {
            for (int t = 0; t < s; t++) {
                if ((graph >> side & 1) != 0) {
                    found[n++] = 1 << s | 1 << t;
                    met |= 1 << s | 1 << t;
                }
                side++;
            }
        }
        for (int s = 0; s < 5; s++) {
            if ((met >> s & 1) == 0) {
                found[n++] = 1 << s;
            }
        }
        return Arrays.copyOf(found, n);
    }

    private static boolean together(int[] sets, int s, int t) {
        for (int set : sets) {
            if ((set >> s & 1) != 0 && (set >> t & 1) != 0) {
                return true;
            }
        }
        return false;
    }

    private static int largestOfFive(int[] sets) {
        int largest = 0;
        for (int chosen = 0; chosen < 1 << 5; chosen++) {
            boolean fits = true;
            for (int s = 0; s < 5; s++) {
                for (int t = 0; t < s; t++) {
                    boolean both = (chosen >> s & 1) != 0 && (chosen >> t & 1) != 0;
                    fits = fits && (!both || together(sets, s, t));
                }
            }
            largest = fits ? Math.max(largest, Integer.bitCount(chosen)) : largest;
        }
        return largest;
    }

    /** Tries every way to give five selectors one of five colours. */
    private static int leastOfFive(int[] sets) {
        int least = 5;
        int[] colour = new int[5];
        for (int way = 0; way < 5 * 5 * 5 * 5 * 5; way++) {
            int rest = way;
            int used = 0;
            for (int s = 0; s < 5; s++) {
                colour[s] = rest % 5;
                used |= 1 << colour[s];
                rest /= 5;
            }
            if (Integer.bitCount(used) < least && keepsApart(sets, colour)) {
                least = Integer.bitCount(used);
            }
        }
        return least;
    }

    private static boolean keepsApart(int[] sets, int[] colour) {
        for (int s = 0; s < 5; s++) {
            for (int t = 0; t < s; t++) {
                if (colour[s] == colour[t] && together(sets, s, t)) {
                    return false;
                }
            }
        }
        return true;
    }

    private static void knownGraphs() {
        inManyNumberings("path of eight", 2, 2, 0b11, 0b110, 0b1100, 0b11000, 0b110000, 0b1100000, 0b11000000);
        inManyNumberings("ring of seven", 2, 3, 0b11, 0b110, 0b1100, 0b11000, 0b110000, 0b1100000, 0b1000001);
        inManyNumberings("ring of eight", 2, 2, 0b11, 0b110, 0b1100, 0b11000, 0b110000, 0b1100000, 0b11000000,
            0b10000001);
        inManyNumberings("wheel of five spokes", 3, 4, 0b100011, 0b100110, 0b101100, 0b111000, 0b110001);
        inManyNumberings("spindle of seven", 3, 4, 0b0000111, 0b0001110, 0b0110001, 0b1110000, 0b1001000);
        inManyNumberings("prism", 3, 3, 0b000111, 0b111000, 0b001001, 0b010010, 0b100100);
        inManyNumberings("three in the midst of a star", 3, 3, 0b00000111, 0b00001001, 0b00010001, 0b00100010, 0b01000010,
            0b10000100);
        inManyNumberings("a star beside three", 3, 3, 0b00000011, 0b00000101, 0b00001001, 0b00010001, 0b11100000);
        inManyNumberings("four and a ring of four", 4, 4, 0b00001111, 0b00110000, 0b01100000, 0b11000000, 0b10010000,
            0b00010001);
        // Each of the three has a neighbour with as many sides, so that a set grown by that leaves the three.
        inManyNumberings("three, each tied to one of a grid", 3, 3, 0b00000111, 0b00001001, 0b00010010, 0b00100100,
            0b01001000, 0b01010000, 0b01100000, 0b10001000, 0b10010000, 0b10100000);
    }

    /**
     * Whoever colours the selector first that has the most colours beside it, and among those the one with the most
     * neighbours, spends a colour too many: on the first four in each numbering, on the others in some.
     */
    private static void misleadingGraphs() {
        inManyNumberings("A", 3, 3, 0b00000011, 0b10000010, 0b10010010, 0b10010000, 0b10000001, 0b00110000,
            0b01101000, 0b01100100, 0b01000001);
        inManyNumberings("B", 3, 4, 0b00000110, 0b11000010, 0b00010001, 0b00100101, 0b10011000, 0b00110001,
            0b11001000, 0b00000111, 0b01000100, 0b00101000);
        inManyNumberings("C", 3, 3, 0b01001000, 0b00000011, 0b01010000, 0b00101000, 0b11000100, 0b00100100,
            0b10000010, 0b00010001, 0b00001011, 0b00100001);
        inManyNumberings("D", 3, 3, 0b00011000, 0b10100010, 0b00101000, 0b00000011, 0b01001000, 0b01000100,
            0b00010001, 0b01000010, 0b10010100);
        inManyNumberings("E", 4, 4, 0b00000101, 0b10100000, 0b00110001, 0b01001010, 0b00000111, 0b10010100,
            0b00000110, 0b00100100, 0b00001010, 0b10001100);
        inManyNumberings("F", 3, 4, 0b11100000, 0b00001011, 0b00011100, 0b00000101, 0b10000010, 0b11000000,
            0b01000010, 0b00100101, 0b11010000);
    }

    private static void inManyNumberings(String what, int crowd, int colours, int... sets) {
        int[] number = {0, 1, 2, 3, 4, 5, 6, 7};
        for (int turn = 0; turn < NUMBERINGS; turn++) {
            SendTable x = Due.roots(renumbered(sets, number));
            String at = what + ", numbered " + Arrays.toString(number);
            Due.is(at + ": crowd()", x.crowd(), crowd);
            Due.is(at + ": colours()", x.colours(), colours);
            shuffle(number);
        }
    }

    private static int[] renumbered(int[] sets, int[] number) {
        int[] renumbered = new int[sets.length];
        for (int i = 0; i < sets.length; i++) {
            for (int s = 0; s < 8; s++) {
                renumbered[i] |= (sets[i] >> s & 1) << number[s];
            }
        }
        return renumbered;
    }

    private static void shuffle(int[] number) {
        for (int s = number.length - 1; s > 0; s--) {
            seed = seed * 6364136223846793005L + 1442695040888963407L;
            int other = (int) ((seed >>> 33) % (s + 1));
            int kept = number[s];
            number[s] = number[other];
            number[other] = kept;
        }
    }
}
