/** Finds the methods that answer messages in a growing tree of classes. */
public final class SendTable {
    public static final int NONE = -1;
    public static final int FULL = -2;

    private static final int MAX_CLASSES = 10;
    private static final int SELECTORS = 8;
    private static final int CELLS = 80;
    private static final int SETS = 256;
    private static final int ALL_SELECTORS = 255;
    private static final int MAX_METHOD = 1000;
    // Methods start at 1, so 0 can stand for "no method" in a fresh array.
    private static final int NO_METHOD = 0;

    private final int[] parents = new int[MAX_CLASSES];
    // What class c itself defines for selector s stands at c * SELECTORS + s.
    private final int[] methods = new int[CELLS];
    // Room for crowd and colours alone; each fills it anew from the two arrays above.
    private final int[] together = new int[SELECTORS];
    private final int[] fewest = new int[SETS];
    private int count;

    public SendTable() {
        count = 0;
    }

    public int addClass(int parent) {
        if (!isClassOrNone(parent)) {
            return NONE;
        }
        if (count >= MAX_CLASSES) {
            return FULL;
        }
        int added = count;
        parents[added] = parent;
        count = added + 1;
        return added;
    }

    public boolean define(int c, int s, int m) {
        if (!isClass(c) || !isSelector(s) || m < 1 || m > MAX_METHOD) {
            return false;
        }
        methods[c * SELECTORS + s] = m;
        return true;
    }

    public boolean drop(int c, int s) {
        if (!defines(c, s)) {
            return false;
        }
        methods[c * SELECTORS + s] = NO_METHOD;
        return true;
    }

    public boolean move(int c, int parent) {
        if (!isClass(c) || !isClassOrNone(parent) || isWithin(parent, c)) {
            return false;
        }
        parents[c] = parent;
        return true;
    }

    public int classes() {
        return count;
    }

    public int parent(int c) {
        return isClass(c) ? parents[c] : NONE;
    }

    public int send(int c, int s) {
        if (!isClass(c) || !isSelector(s)) {
            return NO_METHOD;
        }
        return methodFrom(c, s);
    }

    public int sendSuper(int c, int s) {
        if (!isClass(c) || !isSelector(s)) {
            return NO_METHOD;
        }
        return methodFrom(parents[c], s);
    }

    public int owner(int c, int s) {
        if (!isClass(c) || !isSelector(s)) {
            return NONE;
        }
        return ownerFrom(c, s);
    }

    public int understands(int c) {
        return isClass(c) ? selectorsOf(c) : 0;
    }

    public int heirs(int c, int s) {
        if (!defines(c, s)) {
            return 0;
        }
        int found = 0;
        for (int d = 0; d < count; d++) {
            if (ownerFrom(d, s) == c) {
                found |= 1 << d;
            }
        }
        return found;
    }

    public int apart(int s) {
        if (!isSelector(s)) {
            return 0;
        }
        int notApart = selectorsBeside(s) | 1 << s;
        return ALL_SELECTORS & ~notApart;
    }

    public int crowd() {
        fillTogether();
        int largest = 0;
        for (int set = 1; set < SETS; set++) {
            int size = sizeOf(set);
            if (size > largest && isCrowd(set)) {
                largest = size;
            }
        }
        return largest;
    }

    public int colours() {
        fillTogether();
        fillFewest();
        int understood = selectorsOfAll();
        return fewest[understood];
    }

    private boolean isClass(int c) {
        return c >= 0 && c < count;
    }

    private boolean isClassOrNone(int c) {
        return c == NONE || isClass(c);
    }

    private boolean isSelector(int s) {
        return s >= 0 && s < SELECTORS;
    }

    private boolean defines(int c, int s) {
        return isClass(c) && isSelector(s) && methods[c * SELECTORS + s] != NO_METHOD;
    }

    /** Whether start, a class or NONE, is class top or lies under it. */
    private boolean isWithin(int start, int top) {
        int at = start;
        // No way up is longer than the number of classes, since move never closes a ring.
        for (int step = 0; step < MAX_CLASSES && at != NONE; step++) {
            if (at == top) {
                return true;
            }
            at = parents[at];
        }
        return false;
    }

    /** The owner of what start, a class or NONE, understands for selector s, or NONE. */
    private int ownerFrom(int start, int s) {
        int at = start;
        for (int step = 0; step < MAX_CLASSES && at != NONE; step++) {
            if (methods[at * SELECTORS + s] != NO_METHOD) {
                return at;
            }
            at = parents[at];
        }
        return NONE;
    }

    private int methodFrom(int start, int s) {
        int found = ownerFrom(start, s);
        return found == NONE ? NO_METHOD : methods[found * SELECTORS + s];
    }

    private int selectorsOf(int c) {
        int found = 0;
        for (int s = 0; s < SELECTORS; s++) {
            if (ownerFrom(c, s) != NONE) {
                found |= 1 << s;
            }
        }
        return found;
    }

    private int selectorsOfAll() {
        int found = 0;
        for (int c = 0; c < count; c++) {
            found |= selectorsOf(c);
        }
        return found;
    }

    /** What is understood by the classes that understand s: s itself too, if there is one. */
    private int selectorsBeside(int s) {
        int found = 0;
        for (int c = 0; c < count; c++) {
            int understood = selectorsOf(c);
            if ((understood >> s & 1) != 0) {
                found |= understood;
            }
        }
        return found;
    }

    private void fillTogether() {
        for (int s = 0; s < SELECTORS; s++) {
            together[s] = selectorsBeside(s);
        }
    }

    /** Whether every two of the set are understood together, and each one by some class. */
    private boolean isCrowd(int set) {
        for (int s = 0; s < SELECTORS; s++) {
            if ((set >> s & 1) != 0 && (set & ~together[s]) != 0) {
                return false;
            }
        }
        return true;
    }

    /** Whether no two of the set are understood together, so that one colour does for all. */
    private boolean isOneColour(int set) {
        for (int s = 0; s < SELECTORS; s++) {
            int others = set & ~(1 << s);
            if ((set >> s & 1) != 0 && (others & together[s]) != 0) {
                return false;
            }
        }
        return true;
    }

    private void fillFewest() {
        fewest[0] = 0;
        // A set is greater as a number than each of its parts, so their entries stand already.
        for (int set = 1; set < SETS; set++) {
            fewest[set] = fewestFor(set);
        }
    }

    /** The colours for a set: one for the best part that shares a colour, and those of the rest. */
    private int fewestFor(int set) {
        int best = SELECTORS;
        for (int part = 1; part <= set; part++) {
            boolean isPart = (part & ~set) == 0;
            if (isPart && fewest[set & ~part] + 1 < best && isOneColour(part)) {
                best = fewest[set & ~part] + 1;
            }
        }
        return best;
    }

    private int sizeOf(int set) {
        int size = 0;
        for (int s = 0; s < SELECTORS; s++) {
            size += set >> s & 1;
        }
        return size;
    }
}
