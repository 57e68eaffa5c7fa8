/**
 * Shortest schedules of unit tasks on two processors, and on more for tasks in trees.
 *
 * A set of tasks is held as the bits of an int: task v is in the set iff bit v is 1.
 */
public final class CoffmanGraham {
    public static final int BAD = -1;
    public static final int NONE = -2;
    public static final int FULL = -3;
    public static final int CIRCLE = -4;

    private static final int MOST_TASKS = 9;
    private static final int SETS_OF_TASKS = 512;
    private static final int MOST_PROCESSORS = 9;
    private static final int MOST_PROCESSORS_FOR_ANY_ORDERS = 2;

    /** For each task u the set of the tasks v with an order (u, v). */
    private final int[] next = new int[MOST_TASKS];
    /** For each task u the set of the tasks after u; kept in step with next. */
    private final int[] later = new int[MOST_TASKS];
    /** Room for one call of height. */
    private final int[] heights = new int[MOST_TASKS];
    /** Room for one call of shortest or without: a shortest schedule's length for each set of tasks. */
    private final int[] lengths = new int[SETS_OF_TASKS];
    private int count;

    public CoffmanGraham(int tasks) {
        if (tasks < 0) {
            count = 0;
        } else if (tasks > MOST_TASKS) {
            count = MOST_TASKS;
        } else {
            count = tasks;
        }
    }

    public int addTask() {
        if (count >= MOST_TASKS) {
            return FULL;
        }
        int added = count;
        next[added] = 0;
        later[added] = 0;
        count++;
        return added;
    }

    public int removeTask(int v) {
        if (!isTask(v)) {
            return BAD;
        }
        for (int u = v; u < count - 1; u++) {
            next[u] = next[u + 1];
        }
        count--;
        for (int u = 0; u < count; u++) {
            next[u] = closeGap(next[u], v);
        }
        findLater();
        return count;
    }

    public int addOrder(int u, int v) {
        if (!isTask(u) || !isTask(v)) {
            return BAD;
        }
        if (u == v || has(later[v], u)) {
            return CIRCLE;
        }
        if (has(next[u], v)) {
            return 0;
        }
        next[u] |= 1 << v;
        findLater();
        return 1;
    }

    public int removeOrder(int u, int v) {
        if (!isTask(u) || !isTask(v)) {
            return BAD;
        }
        if (!has(next[u], v)) {
            return 0;
        }
        next[u] &= ~(1 << v);
        findLater();
        return 1;
    }

    public int tasks() {
        return count;
    }

    public boolean after(int u, int v) {
        return isTask(u) && isTask(v) && has(later[u], v);
    }

    public int height(int u) {
        if (!isTask(u)) {
            return BAD;
        }
        for (int task = 0; task < count; task++) {
            heights[task] = 1;
        }
        // No list has more than count tasks, so after count rounds every height has settled.
        for (int round = 0; round < count; round++) {
            raiseHeights();
        }
        return heights[u];
    }

    public int superfluous() {
        int found = 0;
        for (int u = 0; u < count; u++) {
            for (int v = 0; v < count; v++) {
                if (has(next[u], v) && isBridged(u, v)) {
                    found++;
                }
            }
        }
        return found;
    }

    public boolean inTrees() {
        for (int u = 0; u < count; u++) {
            if (neededOrdersFrom(u) > 1) {
                return false;
            }
        }
        return true;
    }

    public int shortest(int m) {
        if (m < 1 || m > MOST_PROCESSORS) {
            return BAD;
        }
        if (m > MOST_PROCESSORS_FOR_ANY_ORDERS && !inTrees()) {
            return NONE;
        }
        int all = (1 << count) - 1;
        return lengthFor(all, m);
    }

    public int without(int v) {
        if (!isTask(v)) {
            return BAD;
        }
        int all = (1 << count) - 1;
        return lengthFor(all & ~(1 << v), 2);
    }

    private boolean isTask(int v) {
        return v >= 0 && v < count;
    }

    private static boolean has(int set, int v) {
        return ((set >> v) & 1) == 1;
    }

    private static int sizeOf(int set) {
        int size = 0;
        for (int v = 0; v < MOST_TASKS; v++) {
            size += (set >> v) & 1;
        }
        return size;
    }

    /** The set without v, with the tasks of greater numbers moved one down. */
    private static int closeGap(int set, int v) {
        int below = set & ((1 << v) - 1);
        int above = set >> (v + 1);
        return below | (above << v);
    }

    private void findLater() {
        for (int u = 0; u < count; u++) {
            later[u] = next[u];
        }
        // The middle task must run in the outer loop: then one pass finds lists of every length.
        for (int w = 0; w < count; w++) {
            for (int u = 0; u < count; u++) {
                if (has(later[u], w)) {
                    later[u] |= later[w];
                }
            }
        }
    }

    private void raiseHeights() {
        for (int u = 0; u < count; u++) {
            for (int v = 0; v < count; v++) {
                if (has(next[u], v) && heights[u] <= heights[v]) {
                    heights[u] = heights[v] + 1;
                }
            }
        }
    }

    /** Whether some task is after u and has v after it. */
    private boolean isBridged(int u, int v) {
        for (int w = 0; w < count; w++) {
            if (has(later[u], w) && has(later[w], v)) {
                return true;
            }
        }
        return false;
    }

    private int neededOrdersFrom(int u) {
        int needed = 0;
        for (int v = 0; v < count; v++) {
            if (has(next[u], v) && !isBridged(u, v)) {
                needed++;
            }
        }
        return needed;
    }

    /**
     * The length of a shortest schedule on m processors of the wanted tasks, with the orders among these.
     *
     * There are so few sets of tasks that each one's length can be found from those of its subsets, which
     * have smaller numbers and so come first. This needs no rule of priority that holds only for some m.
     */
    private int lengthFor(int wanted, int m) {
        lengths[0] = 0;
        for (int set = 1; set <= wanted; set++) {
            lengths[set] = lengthFromSubsets(set, m);
        }
        return lengths[wanted];
    }

    /** Tries every choice of tasks for the last slot; the rest is then a schedule of a subset. */
    private int lengthFromSubsets(int set, int m) {
        int ends = endsOf(set);
        int best = MOST_TASKS;
        for (int last = 1; last <= ends; last++) {
            if ((last & ~ends) == 0 && sizeOf(last) <= m) {
                int length = lengths[set & ~last] + 1;
                if (length < best) {
                    best = length;
                }
            }
        }
        return best;
    }

    /** The tasks of the set that come before no other task of it. */
    private int endsOf(int set) {
        int ends = 0;
        for (int u = 0; u < count; u++) {
            if (has(set, u) && (next[u] & set) == 0) {
                ends |= 1 << u;
            }
        }
        return ends;
    }
}
