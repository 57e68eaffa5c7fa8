import java.util.function.Function;

/**
 * One test for each sentence of the document that names a boundary case: too small, too large, empty, full, a
 * wrap-around, a refused call. A test bears the words of its sentence; what fails is told under these words.
 *
 * No object is asked more than 512 times, since later answers are free.
 */
public final class BoundaryTest {
    private static final int MIN = Integer.MIN_VALUE;
    private static final int MAX = Integer.MAX_VALUE;
    private static final int BAD = -1;
    private static final int NONE = -2;
    private static final int FULL = -3;
    private static final int CIRCLE = -4;
    private static final String[][] SAMPLES = {
        {"0"},
        {"1"},
        {"2", "10"},
        {"5", "01", "12", "02", "34"},
        {"8", "70", "71", "06", "16"},
        {"9", "08", "81", "17", "73", "01", "24", "26", "45"}
    };

    private static String sentence = "";
    private static int sentences = 0;
    private static int checked = 0;
    private static int wrong = 0;

    private static void test(String words, Runnable body) {
        sentence = words;
        sentences++;
        try {
            body.run();
        } catch (RuntimeException thrown) {
            due("a call", thrown, "an answer");
        }
    }

    private static void due(String call, Object got, Object want) {
        checked++;
        if (!got.equals(want)) {
            wrong++;
            System.out.println("[" + sentence + "] " + call + " answered " + got + ", due is " + want);
        }
    }

    /** A new object with the orders given as pairs of digits. */
    private static CoffmanGraham made(int tasks, String... orders) {
        CoffmanGraham x = new CoffmanGraham(tasks);
        for (String order : orders) {
            due("made: addOrder " + order, x.addOrder(order.charAt(0) - '0', order.charAt(1) - '0'), 1);
        }
        return x;
    }

    private static CoffmanGraham sample(int i) {
        String[] orders = new String[SAMPLES[i].length - 1];
        System.arraycopy(SAMPLES[i], 1, orders, 0, orders.length);
        return made(Integer.parseInt(SAMPLES[i][0]), orders);
    }

    private static CoffmanGraham list(int tasks) {
        CoffmanGraham x = new CoffmanGraham(tasks);
        for (int v = 1; v < tasks; v++) {
            due("list: addOrder to " + v, x.addOrder(v - 1, v), 1);
        }
        return x;
    }

    /** Numbers that are no task. Many come back to a task if only their low bits count, as in a shift or a cast. */
    private static int[] noTasks(int n) {
        return new int[] {
            MIN, MIN + 1, -65536, -256, -64, -32, -31, -9, -2, -1,
            n, n + 1, 9, 10, 16, 31, 32, 33, 64, 256, 65536, MAX - 1, MAX
        };
    }

    /** Every order, as pairs of digits. This takes the orders away. */
    private static String takeOrders(CoffmanGraham x) {
        StringBuilder orders = new StringBuilder();
        int n = x.tasks();
        for (int u = 0; u < n; u++) {
            for (int v = 0; v < n; v++) {
                int was = x.removeOrder(u, v);
                if (was != 0) {
                    orders.append(was == 1 ? " " : " " + was + ":").append(u).append(v);
                }
            }
        }
        return orders.toString().trim();
    }

    /** All that can be asked about an object, in at most 200 calls. The object has no orders any more then. */
    private static String takeState(CoffmanGraham x) {
        int n = x.tasks();
        StringBuilder state = new StringBuilder(n + " tasks, after:");
        for (int u = 0; u < n; u++) {
            for (int v = 0; v < n; v++) {
                state.append(x.after(u, v) ? " " + u + v : "");
            }
        }
        state.append(", heights:");
        for (int u = 0; u < n; u++) {
            state.append(" ").append(x.height(u));
        }
        state.append(", superfluous: ").append(x.superfluous()).append(", in trees: ").append(x.inTrees());
        state.append(", lengths:");
        for (int m = 1; m <= 9; m++) {
            state.append(" ").append(x.shortest(m));
        }
        state.append(", without:");
        for (int v = 0; v < n; v++) {
            state.append(" ").append(x.without(v));
        }
        return state.append(", orders: ").append(takeOrders(x)).toString();
    }

    private static void unchanged(CoffmanGraham used, int sample) {
        due("the state of sample " + sample + " after the calls", takeState(used), takeState(sample(sample)));
    }

    // What it is

    private static void callsUpTo512() {
        CoffmanGraham tasks = new CoffmanGraham(8);
        CoffmanGraham orders = new CoffmanGraham(9);
        CoffmanGraham lengths = new CoffmanGraham(9);
        CoffmanGraham refused = list(9);
        for (int call = 1; call <= 512; call += 2) {
            due("call " + call + ": addTask()", tasks.addTask(), 8);
            due("call " + (call + 1) + ": removeTask", tasks.removeTask(call % 9), 8);
            due("call " + call + ": addOrder(0, 8)", orders.addOrder(0, 8), 1);
            due("call " + (call + 1) + ": removeOrder(0, 8)", orders.removeOrder(0, 8), 1);
            due("call " + call + ": shortest(2)", lengths.shortest(2), 5);
            due("call " + (call + 1) + ": without(8)", lengths.without(8), 4);
        }
        for (int call = 9; call <= 511; call++) {
            int answer = call % 4 == 0 ? refused.addTask() - FULL
                : call % 4 == 1 ? refused.addOrder(8, 0) - CIRCLE
                : call % 4 == 2 ? refused.removeTask(9) - BAD
                : refused.shortest(10) - BAD;
            due("call " + call + ": a refused one", answer, 0);
        }
        due("call 512: height(0)", refused.height(0), 9);
    }

    /** Each method as the 512th call. */
    private static void everyMethodAsCall512() {
        lastCall("addTask()", x -> x.addTask(), 3);
        lastCall("removeTask(1)", x -> x.removeTask(1), 2);
        lastCall("addOrder(0, 2)", x -> x.addOrder(0, 2), 1);
        lastCall("addOrder(2, 0)", x -> x.addOrder(2, 0), CIRCLE);
        lastCall("removeOrder(0, 1)", x -> x.removeOrder(0, 1), 1);
        lastCall("tasks()", x -> x.tasks(), 3);
        lastCall("after(0, 2)", x -> x.after(0, 2), true);
        lastCall("height(0)", x -> x.height(0), 3);
        lastCall("superfluous()", x -> x.superfluous(), 0);
        lastCall("inTrees()", x -> x.inTrees(), true);
        lastCall("shortest(9)", x -> x.shortest(9), 3);
        lastCall("without(1)", x -> x.without(1), 1);
    }

    private static void lastCall(String name, Function<CoffmanGraham, Object> ask, Object want) {
        CoffmanGraham x = list(3);
        for (int call = 3; call <= 511; call++) {
            due("call " + call + ": tasks()", x.tasks(), 3);
        }
        due("call 512: " + name, ask.apply(x), want);
    }

    // Terms

    private static void noCircle() {
        for (int n = 2; n <= 9; n++) {
            CoffmanGraham x = list(n);
            due("closing a circle of " + n, x.addOrder(n - 1, 0), CIRCLE);
            due("after itself", x.after(0, 0), false);
            due("the last before the first", x.after(n - 1, 0), false);
        }
    }

    private static void fullSlots() {
        for (int m = 1; m <= 9; m++) {
            due(m + " tasks on " + m, new CoffmanGraham(m).shortest(m), 1);
            if (m < 9) {
                due(m + 1 + " tasks on " + m, new CoffmanGraham(m + 1).shortest(m), 2);
            }
        }
    }

    private static void slotsInOrder() {
        due("two free tasks on 2", made(2).shortest(2), 1);
        due("two ordered tasks on 2", made(2, "10").shortest(2), 2);
        due("two ordered tasks on 9", made(2, "10").shortest(9), 2);
    }

    private static void noTasksLengthNought() {
        for (int m = 1; m <= 9; m++) {
            due("shortest(" + m + ") of a new object", new CoffmanGraham(0).shortest(m), 0);
            CoffmanGraham emptied = made(2, "01");
            emptied.removeTask(0);
            emptied.removeTask(0);
            due("shortest(" + m + ") after removeTask", emptied.shortest(m), 0);
        }
        due("without(0) of one task", new CoffmanGraham(1).without(0), 0);
    }

    private static void listsOfTwoOrMore() {
        CoffmanGraham x = list(9);
        for (int v = 0; v < 9; v++) {
            due("after(" + v + ", " + v + "), a list of one", x.after(v, v), false);
        }
        for (int v = 1; v < 9; v++) {
            due("after(" + (v - 1) + ", " + v + "), a list of two", x.after(v - 1, v), true);
        }
        due("after(0, 8), a list of nine", x.after(0, 8), true);
        due("after(8, 0)", x.after(8, 0), false);
    }

    private static void heightOne() {
        for (int v = 0; v < 9; v++) {
            due("height(" + v + ") without orders", new CoffmanGraham(9).height(v), 1);
        }
        due("height(0) of one task", new CoffmanGraham(1).height(0), 1);
        due("height(8), the end of a list", list(9).height(8), 1);
        CoffmanGraham x = made(2, "01");
        due("height(1), with a task before it", x.height(1), 1);
        due("height(0), with a task after it", x.height(0), 2);
        x.removeOrder(0, 1);
        due("height(0), the order gone", x.height(0), 1);
    }

    private static void heightGreatest() {
        CoffmanGraham x = list(9);
        for (int v = 0; v < 9; v++) {
            due("height(" + v + ") in a list of nine", x.height(v), 9 - v);
        }
        due("height(0) with a short list and a long one", made(5, "04", "01", "12", "23", "34").height(0), 5);
    }

    private static void superfluousByOneTask() {
        due("u to v, nothing between", made(2, "01").superfluous(), 0);
        due("w after u, v not after w", made(3, "02", "01").superfluous(), 0);
        due("v after w, w not after u", made(3, "02", "12").superfluous(), 0);
        due("one w", made(3, "02", "01", "12").superfluous(), 1);
        due("several w", made(5, "04", "01", "12", "23", "34").superfluous(), 1);
        due("two w apart, counted once", made(4, "03", "01", "13", "02", "23").superfluous(), 1);
        due("v after u by a list, but no order", made(3, "01", "12").superfluous(), 0);
    }

    private static void twoDifferentTasks() {
        due("one order from each task", made(3, "02", "12").inTrees(), true);
        due("two from the first", made(3, "01", "02").inTrees(), false);
        due("two from the last", made(9, "80", "87").inTrees(), false);
        due("two, one of them superfluous", made(3, "02", "01", "12").inTrees(), true);
        due("three, one of them superfluous", made(4, "01", "02", "03", "12").inTrees(), false);
        due("three, two of them superfluous", made(4, "01", "02", "03", "12", "23").inTrees(), true);
        due("eight before one", made(9, "08", "18", "28", "38", "48", "58", "68", "78").inTrees(), true);
        due("one before eight", made(9, "01", "02", "03", "04", "05", "06", "07", "08").inTrees(), false);
    }

    // Promise 1

    private static void clampedTooSmall() {
        int[] small = {MIN, MIN + 1, MIN + 9, -65535, -512, -251, -32, -31, -23, -10, -9, -2, -1};
        for (int tasks : small) {
            due("tasks() of new " + tasks, new CoffmanGraham(tasks).tasks(), 0);
            due("addTask() of new " + tasks, new CoffmanGraham(tasks).addTask(), 0);
        }
    }

    private static void clampedTooLarge() {
        int[] large = {10, 11, 15, 16, 31, 32, 33, 255, 256, 257, 512, 65536, 65541, MAX - 1, MAX};
        for (int tasks : large) {
            due("tasks() of new " + tasks, new CoffmanGraham(tasks).tasks(), 9);
            due("addTask() of new " + tasks, new CoffmanGraham(tasks).addTask(), FULL);
            due("height(8) of new " + tasks, new CoffmanGraham(tasks).height(8), 1);
            due("height(9) of new " + tasks, new CoffmanGraham(tasks).height(9), BAD);
        }
    }

    private static void clampedInside() {
        for (int tasks = 0; tasks <= 9; tasks++) {
            CoffmanGraham x = new CoffmanGraham(tasks);
            due("tasks() of new " + tasks, x.tasks(), tasks);
            due("height(n - 1) of new " + tasks, x.height(tasks - 1), tasks == 0 ? BAD : 1);
            due("height(n) of new " + tasks, x.height(tasks), BAD);
        }
    }

    private static void newWithoutOrders() {
        int[] given = {MIN, -1, 0, 1, 8, 9, 10, MAX};
        for (int tasks : given) {
            CoffmanGraham x = new CoffmanGraham(tasks);
            int n = x.tasks();
            due("superfluous() of new " + tasks, x.superfluous(), 0);
            due("inTrees() of new " + tasks, x.inTrees(), true);
            due("shortest(9) of new " + tasks, x.shortest(9), n == 0 ? 0 : 1);
            due("orders of new " + tasks, takeOrders(x), "");
        }
        made(9, "01");
        due("orders of a new object after another had some", takeOrders(new CoffmanGraham(9)), "");
    }

    // Promise 2

    private static void addTaskFull() {
        due("addTask() of new 9", new CoffmanGraham(9).addTask(), FULL);
        CoffmanGraham x = new CoffmanGraham(0);
        for (int v = 0; v < 9; v++) {
            due("addTask() at " + v, x.addTask(), v);
        }
        due("addTask() at 9", x.addTask(), FULL);
        due("addTask() at 9 again", x.addTask(), FULL);
        due("removeTask(0) when full", x.removeTask(0), 8);
        due("addTask() at 8", x.addTask(), 8);
        due("addTask() full again", x.addTask(), FULL);
    }

    private static void addTaskFullChangesNothing() {
        int full = SAMPLES.length - 1;
        CoffmanGraham x = sample(full);
        for (int i = 0; i < 20; i++) {
            due("addTask() of the full sample", x.addTask(), FULL);
        }
        due("height(9) after FULL", x.height(9), BAD);
        unchanged(x, full);
    }

    private static void addTaskWithoutOrders() {
        CoffmanGraham last = made(9, "80", "18", "87");
        last.removeTask(8);
        due("addTask() in place of the last", last.addTask(), 8);
        due("the state then", takeState(last), takeState(new CoffmanGraham(9)));
        CoffmanGraham first = made(9, "01", "80", "87");
        first.removeTask(0);
        due("addTask() after the others moved", first.addTask(), 8);
        due("the state then", takeState(first), takeState(made(9, "76")));
        CoffmanGraham only = made(2, "01");
        only.removeTask(1);
        only.removeTask(0);
        due("addTask() of none", only.addTask(), 0);
        due("addTask() of one", only.addTask(), 1);
        due("the state then", takeState(only), takeState(new CoffmanGraham(2)));
    }

    // Promise 3

    private static void removeTaskBad() {
        for (int i = 0; i < SAMPLES.length; i++) {
            CoffmanGraham x = sample(i);
            for (int v : noTasks(x.tasks())) {
                due("removeTask(" + v + ") of sample " + i, x.removeTask(v), BAD);
            }
            unchanged(x, i);
        }
        CoffmanGraham x = new CoffmanGraham(9);
        due("removeTask(8) of 9", x.removeTask(8), 8);
        due("removeTask(8) of 8", x.removeTask(8), BAD);
    }

    private static void removeTaskMoves() {
        CoffmanGraham first = list(9);
        due("removeTask(0), the first", first.removeTask(0), 8);
        due("orders then", takeOrders(first), "01 12 23 34 45 56 67");
        CoffmanGraham last = list(9);
        due("removeTask(8), the last", last.removeTask(8), 8);
        due("orders then", takeOrders(last), "01 12 23 34 45 56 67");
        CoffmanGraham middle = list(9);
        due("removeTask(4), the middle", middle.removeTask(4), 8);
        due("orders then", takeOrders(middle), "01 12 23 45 56 67");
        CoffmanGraham down = made(9, "87", "76", "80", "60");
        due("removeTask(7), orders to smaller numbers", down.removeTask(7), 8);
        due("orders then", takeOrders(down), "60 70");
    }

    private static void removeTaskLeft() {
        CoffmanGraham only = new CoffmanGraham(1);
        due("removeTask(0), the only one", only.removeTask(0), 0);
        due("tasks() then", only.tasks(), 0);
        due("removeTask(0) then", only.removeTask(0), BAD);
        CoffmanGraham x = list(9);
        for (int n = 8; n >= 0; n--) {
            due("removeTask(0) down to " + n, x.removeTask(0), n);
        }
        due("inTrees() of none", x.inTrees(), true);
    }

    private static void removeTaskOtherOrders() {
        CoffmanGraham x = made(3, "01", "12");
        due("removeTask(1)", x.removeTask(1), 2);
        due("after(0, 1): no new order", x.after(0, 1), false);
        due("shortest(2): no new order", x.shortest(2), 1);
        due("addOrder(1, 0): no circle", x.addOrder(1, 0), 1);
        CoffmanGraham y = made(3, "01", "12", "02");
        due("superfluous() before", y.superfluous(), 1);
        due("removeTask(1)", y.removeTask(1), 2);
        due("superfluous(): it was so only by the task taken away", y.superfluous(), 0);
        due("orders: the superfluous one stays", takeOrders(y), "01");
        CoffmanGraham z = made(9, "02", "12", "23", "24", "34", "58", "86", "67");
        due("removeTask(2)", z.removeTask(2), 8);
        due("orders between others", takeOrders(z), "23 47 56 75");
    }

    // Promise 4

    private static void addOrderBad() {
        for (int i = 0; i < SAMPLES.length; i++) {
            CoffmanGraham x = sample(i);
            int n = x.tasks();
            for (int w : noTasks(n)) {
                due("addOrder(" + w + ", 0) of sample " + i, x.addOrder(w, 0), BAD);
                due("addOrder(0, " + w + ") of sample " + i, x.addOrder(0, w), BAD);
                due("addOrder(" + (n - 1) + ", " + w + ") of sample " + i, x.addOrder(n - 1, w), BAD);
            }
            unchanged(x, i);
        }
    }

    private static void addOrderBadBeforeCircle() {
        for (int i = 0; i < SAMPLES.length; i++) {
            CoffmanGraham x = sample(i);
            for (int w : noTasks(x.tasks())) {
                due("addOrder(" + w + ", " + w + ") of sample " + i, x.addOrder(w, w), BAD);
            }
            unchanged(x, i);
        }
        CoffmanGraham x = made(9, "78");
        x.removeTask(8);
        due("addOrder(8, 7), once a circle", x.addOrder(8, 7), BAD);
        due("addOrder(8, 8), once a task", x.addOrder(8, 8), BAD);
    }

    private static void addOrderToItself() {
        for (int i = 0; i < SAMPLES.length; i++) {
            CoffmanGraham x = sample(i);
            int n = x.tasks();
            for (int v = 0; v < n; v++) {
                due("addOrder(" + v + ", " + v + ") of sample " + i, x.addOrder(v, v), CIRCLE);
            }
            unchanged(x, i);
        }
    }

    private static void addOrderCircle() {
        for (int i = 0; i < SAMPLES.length; i++) {
            CoffmanGraham x = sample(i);
            int n = x.tasks();
            for (int u = 0; u < n; u++) {
                for (int v = 0; v < n; v++) {
                    if (x.after(v, u)) {
                        due("addOrder(" + u + ", " + v + ") of sample " + i, x.addOrder(u, v), CIRCLE);
                    }
                }
            }
            unchanged(x, i);
        }
        CoffmanGraham x = list(9);
        due("addOrder(1, 0), back over one order", x.addOrder(1, 0), CIRCLE);
        due("addOrder(8, 0), back over eight", x.addOrder(8, 0), CIRCLE);
        due("removeOrder(4, 5)", x.removeOrder(4, 5), 1);
        due("addOrder(8, 0), no longer back", x.addOrder(8, 0), 1);
        due("addOrder(5, 4), the way that was taken", x.addOrder(5, 4), 1);
        due("addOrder(4, 5), now back", x.addOrder(4, 5), CIRCLE);
    }

    private static void addOrderNewOrThere() {
        CoffmanGraham x = made(9);
        due("addOrder(8, 0), new", x.addOrder(8, 0), 1);
        due("addOrder(8, 0), there", x.addOrder(8, 0), 0);
        due("addOrder(0, 7), new", x.addOrder(0, 7), 1);
        due("addOrder(8, 7), after but new", x.addOrder(8, 7), 1);
        due("addOrder(8, 7), there", x.addOrder(8, 7), 0);
        due("superfluous(), it counts once", x.superfluous(), 1);
        due("removeOrder(8, 7)", x.removeOrder(8, 7), 1);
        due("removeOrder(8, 7), added twice but once there", x.removeOrder(8, 7), 0);
        due("addOrder(8, 7), new again", x.addOrder(8, 7), 1);
        for (int i = 0; i < SAMPLES.length; i++) {
            CoffmanGraham y = sample(i);
            for (int k = 1; k < SAMPLES[i].length; k++) {
                String order = SAMPLES[i][k];
                due("addOrder " + order + " again", y.addOrder(order.charAt(0) - '0', order.charAt(1) - '0'), 0);
            }
            unchanged(y, i);
        }
    }

    private static void addOrderUpToAll() {
        CoffmanGraham x = new CoffmanGraham(9);
        for (int u = 0; u < 9; u++) {
            for (int v = u + 1; v < 9; v++) {
                due("addOrder(" + u + ", " + v + ")", x.addOrder(u, v), 1);
            }
        }
        for (int u = 0; u < 9; u++) {
            for (int v = 0; v < 9; v++) {
                due("addOrder(" + u + ", " + v + ") again", x.addOrder(u, v), u < v ? 0 : CIRCLE);
            }
        }
    }

    // Promise 5

    private static void removeOrderBad() {
        for (int i = 0; i < SAMPLES.length; i++) {
            CoffmanGraham x = sample(i);
            int n = x.tasks();
            for (int w : noTasks(n)) {
                due("removeOrder(" + w + ", 0) of sample " + i, x.removeOrder(w, 0), BAD);
                due("removeOrder(0, " + w + ") of sample " + i, x.removeOrder(0, w), BAD);
                due("removeOrder(" + (n - 1) + ", " + w + ") of sample " + i, x.removeOrder(n - 1, w), BAD);
                due("removeOrder(" + w + ", " + w + ") of sample " + i, x.removeOrder(w, w), BAD);
            }
            unchanged(x, i);
        }
        CoffmanGraham x = made(9, "78", "80");
        x.removeTask(8);
        due("removeOrder(7, 8), once there", x.removeOrder(7, 8), BAD);
        due("removeOrder(8, 0), once there", x.removeOrder(8, 0), BAD);
    }

    private static void removeOrderThereOrNot() {
        CoffmanGraham x = made(9, "80", "07", "87");
        due("removeOrder(0, 8), the other way", x.removeOrder(0, 8), 0);
        due("removeOrder(0, 0), itself", x.removeOrder(0, 0), 0);
        due("removeOrder(1, 2), none", x.removeOrder(1, 2), 0);
        due("removeOrder(8, 7), superfluous", x.removeOrder(8, 7), 1);
        due("removeOrder(8, 7), still after but gone", x.removeOrder(8, 7), 0);
        due("after(8, 7)", x.after(8, 7), true);
        due("removeOrder(8, 0)", x.removeOrder(8, 0), 1);
        due("after(8, 7), the list is cut", x.after(8, 7), false);
        due("orders left", takeOrders(x), "07");
        due("orders of nine tasks without any", takeOrders(new CoffmanGraham(9)), "");
    }

    private static void removeOrderNotThereChangesNothing() {
        for (int i = 0; i < SAMPLES.length; i++) {
            CoffmanGraham x = sample(i);
            String there = " " + takeOrders(sample(i)) + " ";
            int n = x.tasks();
            for (int u = 0; u < n; u++) {
                for (int v = 0; v < n; v++) {
                    if (!there.contains(" " + u + v + " ")) {
                        due("removeOrder(" + u + ", " + v + ") of sample " + i, x.removeOrder(u, v), 0);
                    }
                }
            }
            unchanged(x, i);
        }
    }

    // Promise 6

    private static void tasksNoneAndNine() {
        CoffmanGraham x = new CoffmanGraham(0);
        due("tasks() of none", x.tasks(), 0);
        x.removeTask(0);
        due("tasks() of none after BAD", x.tasks(), 0);
        for (int n = 1; n <= 9; n++) {
            x.addTask();
            due("tasks() up to " + n, x.tasks(), n);
        }
        x.addTask();
        due("tasks() of nine after FULL", x.tasks(), 9);
        for (int n = 8; n >= 0; n--) {
            x.removeTask(n);
            due("tasks() down to " + n, x.tasks(), n);
        }
        x.removeTask(0);
        due("tasks() of none again, after BAD", x.tasks(), 0);
    }

    // Promise 7

    private static void afterFalse() {
        for (int i = 0; i < SAMPLES.length; i++) {
            CoffmanGraham x = sample(i);
            int n = x.tasks();
            for (int w : noTasks(n)) {
                due("after(" + w + ", 0) of sample " + i, x.after(w, 0), false);
                due("after(0, " + w + ") of sample " + i, x.after(0, w), false);
                due("after(" + (n - 1) + ", " + w + ") of sample " + i, x.after(n - 1, w), false);
                due("after(" + w + ", " + w + ") of sample " + i, x.after(w, w), false);
            }
            unchanged(x, i);
        }
        CoffmanGraham x = list(9);
        for (int u = 0; u < 9; u++) {
            for (int v : noTasks(9)) {
                due("after(" + u + ", " + v + ") of a list", x.after(u, v), false);
            }
        }
        x.removeTask(8);
        due("after(7, 8), once so", x.after(7, 8), false);
        CoffmanGraham y = made(9, "80");
        y.removeTask(8);
        due("after(8, 0), once so", y.after(8, 0), false);
    }

    // Promise 8

    private static void heightBad() {
        for (int i = 0; i < SAMPLES.length; i++) {
            CoffmanGraham x = sample(i);
            for (int w : noTasks(x.tasks())) {
                due("height(" + w + ") of sample " + i, x.height(w), BAD);
            }
            unchanged(x, i);
        }
        CoffmanGraham x = new CoffmanGraham(9);
        due("height(8) of 9", x.height(8), 1);
        x.removeTask(8);
        due("height(8) of 8", x.height(8), BAD);
    }

    // Promise 9

    private static void superfluousEdges() {
        due("no tasks", new CoffmanGraham(0).superfluous(), 0);
        due("one task", new CoffmanGraham(1).superfluous(), 0);
        due("nine tasks, no orders", new CoffmanGraham(9).superfluous(), 0);
        due("a list of nine", list(9).superfluous(), 0);
        CoffmanGraham x = new CoffmanGraham(9);
        for (int u = 0; u < 9; u++) {
            for (int v = 0; v < u; v++) {
                x.addOrder(u, v);
            }
        }
        due("all 36 orders, all but 8", x.superfluous(), 28);
        x.removeOrder(8, 7);
        due("the first step gone, so that 8 to 6 is needed", x.superfluous(), 27);
    }

    // Promise 10

    private static void inTreesEdges() {
        due("no tasks", new CoffmanGraham(0).inTrees(), true);
        due("one task", new CoffmanGraham(1).inTrees(), true);
        due("nine tasks, no orders", new CoffmanGraham(9).inTrees(), true);
        CoffmanGraham x = list(9);
        due("a list of nine", x.inTrees(), true);
        for (int v = 2; v < 9; v++) {
            due("addOrder(0, " + v + "), superfluous", x.addOrder(0, v), 1);
            due("inTrees() with superfluous orders up to " + v, x.inTrees(), true);
        }
        due("removeOrder(7, 8)", x.removeOrder(7, 8), 1);
        due("inTrees(), 0 to 8 is needed now", x.inTrees(), false);
        due("removeOrder(0, 8)", x.removeOrder(0, 8), 1);
        due("inTrees(), 0 to 8 is gone", x.inTrees(), true);
    }

    // Promise 11

    private static int[] noProcessors() {
        return new int[] {
            MIN, MIN + 1, MIN + 2, -65535, -255, -31, -30, -9, -3, -2, -1, 0,
            10, 11, 16, 17, 32, 33, 34, 257, 512, 65537, 65538, MAX - 1, MAX
        };
    }

    private static void shortestBad() {
        for (int i = 0; i < SAMPLES.length; i++) {
            CoffmanGraham x = sample(i);
            for (int m : noProcessors()) {
                due("shortest(" + m + ") of sample " + i, x.shortest(m), BAD);
            }
            unchanged(x, i);
        }
    }

    private static void shortestEnds() {
        for (int n = 0; n <= 9; n++) {
            due("shortest(1) of " + n + " free", new CoffmanGraham(n).shortest(1), n);
            due("shortest(9) of " + n + " free", new CoffmanGraham(n).shortest(9), n == 0 ? 0 : 1);
            due("shortest(1) of a list of " + n, list(n).shortest(1), n);
            due("shortest(9) of a list of " + n, list(n).shortest(9), n);
        }
        CoffmanGraham all = made(9, "01", "02", "03", "04", "05", "06", "07", "08");
        due("shortest(1), not in trees", all.shortest(1), 9);
        due("shortest(2), not in trees", all.shortest(2), 5);
    }

    private static void shortestNone() {
        CoffmanGraham fork = made(3, "01", "02");
        CoffmanGraham last = made(9, "87", "86");
        due("shortest(2) of a fork", fork.shortest(2), 2);
        due("shortest(2) of a fork from the last task", last.shortest(2), 5);
        for (int m = 3; m <= 9; m++) {
            due("shortest(" + m + ") of a fork", fork.shortest(m), NONE);
            due("shortest(" + m + ") of a fork from the last task", last.shortest(m), NONE);
        }
        due("orders after NONE", takeOrders(last), "86 87");
    }

    private static void shortestNoneOnlyOutOfTrees() {
        CoffmanGraham join = made(4, "03", "13", "23");
        int[] lengths = {0, 4, 3, 2, 2, 2, 2, 2, 2, 2};
        CoffmanGraham superfluous = made(3, "01", "12", "02");
        for (int m = 1; m <= 9; m++) {
            due("shortest(" + m + ") of three before one", join.shortest(m), lengths[m]);
            due("shortest(" + m + ") with a superfluous order", superfluous.shortest(m), 3);
        }
        due("removeOrder(1, 2), so that 0 to 2 is needed", superfluous.removeOrder(1, 2), 1);
        due("shortest(3)", superfluous.shortest(3), NONE);
        due("removeTask(2)", superfluous.removeTask(2), 2);
        due("shortest(3), in trees again", superfluous.shortest(3), 2);
    }

    // Promise 12

    private static void withoutBad() {
        for (int i = 0; i < SAMPLES.length; i++) {
            CoffmanGraham x = sample(i);
            for (int w : noTasks(x.tasks())) {
                due("without(" + w + ") of sample " + i, x.without(w), BAD);
            }
            unchanged(x, i);
        }
        CoffmanGraham x = new CoffmanGraham(9);
        x.removeTask(8);
        due("without(8), once a task", x.without(8), BAD);
    }

    private static void withoutEdges() {
        CoffmanGraham only = new CoffmanGraham(1);
        due("without(0), the only one", only.without(0), 0);
        due("tasks() then", only.tasks(), 1);
        due("shortest(2) then", only.shortest(2), 1);
        CoffmanGraham nine = list(9);
        due("without(0), the first of a list", nine.without(0), 8);
        due("without(8), the last of a list", nine.without(8), 8);
        due("without(1), 0 is free then", nine.without(1), 7);
        due("without(4), two lists of four", nine.without(4), 4);
        due("shortest(2), nothing is taken away", nine.shortest(2), 9);
        due("without(0) of nine free", new CoffmanGraham(9).without(0), 4);
        due("without(8) of nine free", new CoffmanGraham(9).without(8), 4);
    }

    private static void withoutOrdersAmongThese() {
        due("the middle one: no new order", made(3, "01", "12").without(1), 1);
        due("the middle one: the superfluous order counts", made(3, "01", "12", "02").without(1), 2);
        due("not in trees, on two processors", made(4, "01", "02", "03").without(3), 2);
        due("not in trees without it either", made(9, "01", "02", "03", "04", "05", "06", "07").without(8), 5);
        due("in trees, still on two processors", new CoffmanGraham(7).without(6), 3);
    }

    private static void withoutChangesNothing() {
        for (int i = 0; i < SAMPLES.length; i++) {
            CoffmanGraham x = sample(i);
            int n = x.tasks();
            for (int v = 0; v < n; v++) {
                x.without(v);
            }
            unchanged(x, i);
        }
    }

    private static void testTerms() {
        test("What it is: An object is used for at most 512 calls after it has been made", BoundaryTest::callsUpTo512);
        test("What it is: at most 512 calls (each method as the 512th)", BoundaryTest::everyMethodAsCall512);
        test("Terms: Orders never form a circle: addOrder refuses one that would.", BoundaryTest::noCircle);
        test("Terms: the slot of u is smaller than that of v", BoundaryTest::slotsInOrder);
        test("Terms: no slot is given to more than m tasks", BoundaryTest::fullSlots);
        test("Terms: For no tasks there is a schedule of length 0.", BoundaryTest::noTasksLengthNought);
        test("Terms: a list of tasks from u to v, of two or more", BoundaryTest::listsOfTwoOrMore);
        test("Terms: 1 if no task is after u", BoundaryTest::heightOne);
        test("Terms: the greatest number of tasks in such a list", BoundaryTest::heightGreatest);
        test("Terms: there is a task w with w after u and v after w", BoundaryTest::superfluousByOneTask);
        test("Terms: no task u has two different tasks v", BoundaryTest::twoDifferentTasks);
    }

    private static void testChanges() {
        test("1: n is tasks clamped into 0..9 (too small)", BoundaryTest::clampedTooSmall);
        test("1: n is tasks clamped into 0..9 (too large)", BoundaryTest::clampedTooLarge);
        test("1: n is tasks clamped into 0..9 (inside, both ends)", BoundaryTest::clampedInside);
        test("1: no orders", BoundaryTest::newWithoutOrders);
        test("2: 9 tasks are there: FULL.", BoundaryTest::addTaskFull);
        test("2: 9 tasks are there: FULL. (refused)", BoundaryTest::addTaskFullChangesNothing);
        test("2: Adds a task without orders.", BoundaryTest::addTaskWithoutOrders);
        test("3: BAD if there is no task v.", BoundaryTest::removeTaskBad);
        test("3: tasks with greater numbers move one down", BoundaryTest::removeTaskMoves);
        test("3: Else answers the number of tasks left.", BoundaryTest::removeTaskLeft);
        test("3: Orders between other tasks stay as they are, and no new ones arise.",
            BoundaryTest::removeTaskOtherOrders);
        test("4: there is no task u or no task v: BAD", BoundaryTest::addOrderBad);
        test("4: Tested in this order", BoundaryTest::addOrderBadBeforeCircle);
        test("4: u = v, or u is after v: CIRCLE. (u = v)", BoundaryTest::addOrderToItself);
        test("4: u = v, or u is after v: CIRCLE. (u after v)", BoundaryTest::addOrderCircle);
        test("4: Answers 1 if the order is new, 0 if it was there.", BoundaryTest::addOrderNewOrThere);
        test("4: Adds the order (u, v). (up to all)", BoundaryTest::addOrderUpToAll);
        test("5: BAD if there is no task u or no task v.", BoundaryTest::removeOrderBad);
        test("5: Answers 1 if it was there, 0 if not.", BoundaryTest::removeOrderThereOrNot);
        test("5: Answers 1 if it was there, 0 if not. (not there)", BoundaryTest::removeOrderNotThereChangesNothing);
    }

    private static void testQuestions() {
        test("6: The number of tasks. (none and nine)", BoundaryTest::tasksNoneAndNine);
        test("7: false if there is no task u or v", BoundaryTest::afterFalse);
        test("8: BAD if there is none", BoundaryTest::heightBad);
        test("9: The number of superfluous orders. (no tasks, no orders, all)", BoundaryTest::superfluousEdges);
        test("10: Whether the tasks are in trees. (no tasks, no orders, superfluous)", BoundaryTest::inTreesEdges);
        test("11: BAD for m outside 1..9", BoundaryTest::shortestBad);
        test("11: BAD for m outside 1..9 (both ends inside)", BoundaryTest::shortestEnds);
        test("11: NONE if m is 3 or more and the tasks are not in trees. (m)", BoundaryTest::shortestNone);
        test("11: NONE if m is 3 or more and the tasks are not in trees. (trees)",
            BoundaryTest::shortestNoneOnlyOutOfTrees);
        test("12: BAD if there is no task v", BoundaryTest::withoutBad);
        test("12: all tasks but v (the only one, the first, the last)", BoundaryTest::withoutEdges);
        test("12: with the orders among these", BoundaryTest::withoutOrdersAmongThese);
        test("12: all tasks but v (nothing is taken away)", BoundaryTest::withoutChangesNothing);
    }

    public static void main(String[] args) {
        testTerms();
        testChanges();
        testQuestions();
        System.out.println(sentences + " tests, " + checked + " answers, " + wrong + " not as due");
        if (wrong != 0) {
            System.exit(1);
        }
    }
}
