import java.util.ArrayList;
import java.util.List;

/**
 * Compares the class, call by call, with a model that follows the words of the document's terms: lists of tasks
 * are walked one by one, and slots are given to tasks one by one. All sets of orders of up to four tasks are
 * tried, and runs of calls that a fixed row of numbers chooses.
 */
public final class ReferenceTest {
    private static int wrong = 0;
    private static long checked = 0;

    /** The model. An order is a pair of numbers in a list. */
    private static final class Model {
        int n;
        List<int[]> orders = new ArrayList<>();

        Model(int tasks) {
            n = tasks < 0 ? 0 : tasks > 9 ? 9 : tasks;
        }

        boolean isTask(int v) {
            return 0 <= v && v < n;
        }

        boolean hasOrder(int u, int v) {
            return orders.stream().anyMatch(o -> o[0] == u && o[1] == v);
        }

        boolean after(int u, int v) {
            for (int[] o : orders) {
                if (o[0] == u && (o[1] == v || after(o[1], v))) {
                    return true;
                }
            }
            return false;
        }

        int addTask() {
            return n == 9 ? -3 : n++;
        }

        int removeTask(int v) {
            if (!isTask(v)) {
                return -1;
            }
            orders = ordersWithout(v);
            return --n;
        }

        List<int[]> ordersWithout(int v) {
            List<int[]> left = new ArrayList<>();
            for (int[] o : orders) {
                if (o[0] != v && o[1] != v) {
                    left.add(new int[] {o[0] > v ? o[0] - 1 : o[0], o[1] > v ? o[1] - 1 : o[1]});
                }
            }
            return left;
        }

        int addOrder(int u, int v) {
            if (!isTask(u) || !isTask(v)) {
                return -1;
            }
            if (u == v || after(v, u)) {
                return -4;
            }
            if (hasOrder(u, v)) {
                return 0;
            }
            orders.add(new int[] {u, v});
            return 1;
        }

        int removeOrder(int u, int v) {
            if (!isTask(u) || !isTask(v)) {
                return -1;
            }
            return orders.removeIf(o -> o[0] == u && o[1] == v) ? 1 : 0;
        }

        int height(int u) {
            if (!isTask(u)) {
                return -1;
            }
            int best = 1;
            for (int[] o : orders) {
                if (o[0] == u) {
                    best = Math.max(best, 1 + height(o[1]));
                }
            }
            return best;
        }

        boolean isSuperfluous(int[] o) {
            for (int w = 0; w < n; w++) {
                if (after(o[0], w) && after(w, o[1])) {
                    return true;
                }
            }
            return false;
        }

        int superfluous() {
            return (int) orders.stream().filter(this::isSuperfluous).count();
        }

        boolean inTrees() {
            for (int[] o : orders) {
                for (int[] p : orders) {
                    if (o[0] == p[0] && o[1] != p[1] && !isSuperfluous(o) && !isSuperfluous(p)) {
                        return false;
                    }
                }
            }
            return true;
        }

        int shortest(int m) {
            if (m < 1 || m > 9) {
                return -1;
            }
            return m >= 3 && !inTrees() ? -2 : length(n, orders, m);
        }

        int without(int v) {
            return isTask(v) ? length(n - 1, ordersWithout(v), 2) : -1;
        }

        static int length(int n, List<int[]> orders, int m) {
            int slots = 0;
            while (!fits(n, orders, m, slots, new int[n], new int[slots + 1], 0)) {
                slots++;
            }
            return slots;
        }

        /** Whether the tasks from v on can be given slots, those before v having theirs. */
        static boolean fits(int n, List<int[]> orders, int m, int slots, int[] slotOf, int[] used, int v) {
            if (v == n) {
                return true;
            }
            for (int slot = 1; slot <= slots; slot++) {
                if (used[slot] < m && agrees(orders, slotOf, v, slot)) {
                    slotOf[v] = slot;
                    used[slot]++;
                    if (fits(n, orders, m, slots, slotOf, used, v + 1)) {
                        return true;
                    }
                    used[slot]--;
                }
            }
            return false;
        }

        static boolean agrees(List<int[]> orders, int[] slotOf, int v, int slot) {
            for (int[] o : orders) {
                if (o[0] == v && o[1] < v && slot >= slotOf[o[1]]) {
                    return false;
                }
                if (o[1] == v && o[0] < v && slotOf[o[0]] >= slot) {
                    return false;
                }
            }
            return true;
        }
    }

    private static String run = "";

    private static void due(String call, int got, int want) {
        checked++;
        if (got != want) {
            wrong++;
            if (wrong <= 20) {
                System.out.println(run + ": " + call + " answered " + got + ", due is " + want);
            }
        }
    }

    private static void compareAll(CoffmanGraham x, Model model) {
        due("tasks()", x.tasks(), model.n);
        due("superfluous()", x.superfluous(), model.superfluous());
        due("inTrees()", x.inTrees() ? 1 : 0, model.inTrees() ? 1 : 0);
        for (int m = 0; m <= 10; m++) {
            due("shortest(" + m + ")", x.shortest(m), model.shortest(m));
        }
        for (int u = -1; u <= model.n; u++) {
            due("height(" + u + ")", x.height(u), model.height(u));
            due("without(" + u + ")", x.without(u), model.without(u));
            for (int v = -1; v <= model.n; v++) {
                due("after(" + u + ", " + v + ")", x.after(u, v) ? 1 : 0, model.after(u, v) ? 1 : 0);
            }
        }
    }

    /** Offers every set of pairs as orders, those that make circles too. */
    private static void everySetOfOrders(int n) {
        int pairs = n * n;
        for (int set = 0; set < 1 << pairs; set++) {
            run = n + " tasks, set " + set;
            CoffmanGraham x = new CoffmanGraham(n);
            Model model = new Model(n);
            boolean circle = false;
            for (int pair = 0; pair < pairs && !circle; pair++) {
                if ((set >> pair & 1) == 1) {
                    int want = model.addOrder(pair / n, pair % n);
                    due("addOrder", x.addOrder(pair / n, pair % n), want);
                    circle = want < 0;
                }
            }
            if (!circle) {
                compareAll(x, model);
            }
        }
    }

    private static long row = 1;

    private static int pick(int bound) {
        row = row * 6364136223846793005L + 1442695040888963407L;
        return (int) ((row >>> 33) % bound);
    }

    private static void changeOnce(CoffmanGraham x, Model model, int addShare) {
        int u = pick(model.n + 2) - 1;
        int v = pick(model.n + 2) - 1;
        int kind = pick(100);
        if (kind < addShare) {
            due("addOrder(" + u + ", " + v + ")", x.addOrder(u, v), model.addOrder(u, v));
        } else if (kind < 88) {
            due("removeOrder(" + u + ", " + v + ")", x.removeOrder(u, v), model.removeOrder(u, v));
        } else if (kind < 96) {
            due("addTask()", x.addTask(), model.addTask());
        } else {
            due("removeTask(" + v + ")", x.removeTask(v), model.removeTask(v));
        }
    }

    private static void longRun(int number) {
        run = "long run " + number;
        int tasks = pick(14) - 2;
        int addShare = 30 + pick(50);
        CoffmanGraham x = new CoffmanGraham(tasks);
        Model model = new Model(tasks);
        for (int step = 0; step < 60; step++) {
            changeOnce(x, model, addShare);
            if (step % 6 == 0) {
                due("superfluous()", x.superfluous(), model.superfluous());
                due("shortest(2)", x.shortest(2), model.shortest(2));
            }
        }
        compareAll(x, model);
    }

    /**
     * Asks about everything after each change, so that an answer kept from before the change is seen. The run stops
     * before the 512 calls that an object is good for are used up.
     */
    private static void watchedRun(int number) {
        run = "watched run " + number;
        int tasks = pick(7);
        CoffmanGraham x = new CoffmanGraham(tasks);
        Model model = new Model(tasks);
        int callsLeft = 512;
        while (callsLeft > 1 + callsToCompare(9)) {
            changeOnce(x, model, 60);
            compareAll(x, model);
            callsLeft -= 1 + callsToCompare(model.n);
        }
    }

    /** How many calls compareAll makes for n tasks. */
    private static int callsToCompare(int n) {
        return 14 + 2 * (n + 2) + (n + 2) * (n + 2);
    }

    /** At most one order from each task, so that shortest is asked on many processors. */
    private static void forest(int number) {
        run = "forest " + number;
        int n = 5 + pick(5);
        CoffmanGraham x = new CoffmanGraham(n);
        Model model = new Model(n);
        for (int u = 0; u < n; u++) {
            if (pick(6) != 0) {
                int v = pick(n);
                due("addOrder(" + u + ", " + v + ")", x.addOrder(u, v), model.addOrder(u, v));
            }
        }
        compareAll(x, model);
    }

    public static void main(String[] args) {
        for (int n = 0; n <= 4; n++) {
            everySetOfOrders(n);
        }
        for (int number = 0; number < 600; number++) {
            longRun(number);
        }
        for (int number = 0; number < 600; number++) {
            watchedRun(number);
        }
        for (int number = 0; number < 600; number++) {
            forest(number);
        }
        System.out.println(checked + " answers, " + wrong + " not as due");
        if (wrong != 0) {
            System.exit(1);
        }
    }
}
