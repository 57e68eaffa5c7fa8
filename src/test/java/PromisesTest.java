/** Each promise of the document by hand: ordinary inputs, the edges that it names, and wrong inputs. */
public final class PromisesTest {
    private static final int[] WRONG_NUMBERS = {
        -1, -2, 9, 10, 31, 32, 33, 64, 1000, Integer.MAX_VALUE, Integer.MIN_VALUE, Integer.MIN_VALUE + 1
    };
    private static int wrong = 0;
    private static int checked = 0;

    private static void due(String call, int got, int want) {
        checked++;
        if (got != want) {
            wrong++;
            System.out.println(call + " answered " + got + ", due is " + want);
        }
    }

    private static void due(String call, boolean got, boolean want) {
        due(call, got ? 1 : 0, want ? 1 : 0);
    }

    /** A new object with the orders given as pairs of digits. */
    private static CoffmanGraham made(int tasks, String... orders) {
        CoffmanGraham x = new CoffmanGraham(tasks);
        for (String order : orders) {
            int u = order.charAt(0) - '0';
            int v = order.charAt(1) - '0';
            due("made: addOrder(" + u + ", " + v + ")", x.addOrder(u, v), 1);
        }
        return x;
    }

    private static void newObject() {
        int[] given = {Integer.MIN_VALUE, -1, 0, 1, 5, 8, 9, 10, 512, Integer.MAX_VALUE};
        int[] want = {0, 0, 0, 1, 5, 8, 9, 9, 9, 9};
        for (int i = 0; i < given.length; i++) {
            CoffmanGraham x = new CoffmanGraham(given[i]);
            due("1: tasks() of new " + given[i], x.tasks(), want[i]);
            due("1: superfluous() of new " + given[i], x.superfluous(), 0);
            for (int u = 0; u < want[i]; u++) {
                due("1: height of new", x.height(u), 1);
                for (int v = 0; v < want[i]; v++) {
                    due("1: after of new", x.after(u, v), false);
                    due("1: removeOrder of new", x.removeOrder(u, v), 0);
                }
            }
        }
        CoffmanGraham one = made(2, "01");
        CoffmanGraham other = new CoffmanGraham(2);
        due("1: objects are apart", other.after(0, 1), false);
        due("1: objects are apart", one.after(0, 1), true);
    }

    private static void addTask() {
        CoffmanGraham x = new CoffmanGraham(0);
        for (int v = 0; v < 9; v++) {
            due("2: addTask()", x.addTask(), v);
            due("2: tasks()", x.tasks(), v + 1);
        }
        due("2: addTask() at 9", x.addTask(), CoffmanGraham.FULL);
        due("2: addTask() at 9 again", x.addTask(), CoffmanGraham.FULL);
        due("2: tasks() after FULL", x.tasks(), 9);

        // A task that takes the place of a removed one has none of its orders.
        CoffmanGraham y = made(4, "03", "31", "32");
        due("2: removeTask(3)", y.removeTask(3), 3);
        due("2: addTask() again", y.addTask(), 3);
        due("2: height(3)", y.height(3), 1);
        due("2: after(0, 3)", y.after(0, 3), false);
        due("2: after(3, 1)", y.after(3, 1), false);
        due("2: removeOrder(3, 2)", y.removeOrder(3, 2), 0);
        due("2: removeOrder(0, 3)", y.removeOrder(0, 3), 0);

        CoffmanGraham z = made(4, "01", "32");
        due("2: removeTask(0)", z.removeTask(0), 3);
        due("2: addTask() after a move", z.addTask(), 3);
        due("2: after(3, 2)", z.after(3, 2), false);
        due("2: after(2, 1)", z.after(2, 1), true);
        due("2: height(3) after a move", z.height(3), 1);
    }

    private static void removeTask() {
        CoffmanGraham x = made(5, "01", "12", "23", "34", "04", "13");
        due("3: removeTask(2)", x.removeTask(2), 4);
        due("3: tasks()", x.tasks(), 4);
        // Left: 0-1, 3-4 (now 2-3), 0-4 (now 0-3), 1-3 (now 1-2).
        due("3: order stays", x.removeOrder(0, 1), 1);
        due("3: order moves", x.removeOrder(2, 3), 1);
        due("3: order's end moves", x.removeOrder(0, 3), 1);
        due("3: order's end moves", x.removeOrder(1, 2), 1);
        int left = 0;
        for (int u = 0; u < 4; u++) {
            for (int v = 0; v < 4; v++) {
                left += x.removeOrder(u, v);
            }
        }
        due("3: no other orders", left, 0);

        CoffmanGraham y = made(3, "01", "12");
        due("3: removeTask(1)", y.removeTask(1), 2);
        due("3: no new order arises", y.after(0, 1), false);
        due("3: so it is no circle", y.addOrder(1, 0), 1);

        CoffmanGraham z = made(9, "08", "87");
        due("3: removeTask(8)", z.removeTask(8), 8);
        due("3: after(0, 7)", z.after(0, 7), false);
        due("3: removeTask(8) again", z.removeTask(8), CoffmanGraham.BAD);
        for (int v : WRONG_NUMBERS) {
            due("3: removeTask(" + v + ")", z.removeTask(v), CoffmanGraham.BAD);
        }
        due("3: tasks() after BAD", z.tasks(), 8);
        for (int n = 7; n >= 0; n--) {
            due("3: removeTask(0)", z.removeTask(0), n);
        }
        due("3: removeTask(0) of none", z.removeTask(0), CoffmanGraham.BAD);
        due("3: tasks() of none", z.tasks(), 0);
    }

    private static void addOrder() {
        CoffmanGraham x = new CoffmanGraham(4);
        due("4: new order", x.addOrder(0, 1), 1);
        due("4: same order", x.addOrder(0, 1), 0);
        due("4: back", x.addOrder(1, 0), CoffmanGraham.CIRCLE);
        due("4: itself", x.addOrder(2, 2), CoffmanGraham.CIRCLE);
        due("4: new order", x.addOrder(1, 2), 1);
        due("4: new order", x.addOrder(2, 3), 1);
        due("4: long circle", x.addOrder(3, 0), CoffmanGraham.CIRCLE);
        due("4: after, but no order yet", x.addOrder(0, 3), 1);
        due("4: same again", x.addOrder(0, 3), 0);
        due("4: refused ones leave nothing", x.after(3, 0), false);
        due("4: refused ones leave nothing", x.after(2, 2), false);
        due("4: refused ones leave nothing", x.removeOrder(3, 0), 0);

        CoffmanGraham y = made(8, "01");
        for (int v : WRONG_NUMBERS) {
            due("4: addOrder(" + v + ", 0)", y.addOrder(v, 0), CoffmanGraham.BAD);
            due("4: addOrder(0, " + v + ")", y.addOrder(0, v), CoffmanGraham.BAD);
            due("4: BAD is tested before CIRCLE", y.addOrder(v, v), CoffmanGraham.BAD);
        }
        due("4: addOrder(8, 8) of 8", y.addOrder(8, 8), CoffmanGraham.BAD);
        due("4: addOrder(0, 8) of 8", y.addOrder(0, 8), CoffmanGraham.BAD);
        due("4: height(0) after BAD", y.height(0), 2);
        due("4: addOrder(0, 0) of none", new CoffmanGraham(0).addOrder(0, 0), CoffmanGraham.BAD);
    }

    private static void removeOrder() {
        CoffmanGraham x = made(4, "01", "12", "02");
        due("5: not there", x.removeOrder(0, 3), 0);
        due("5: wrong way", x.removeOrder(1, 0), 0);
        due("5: itself", x.removeOrder(2, 2), 0);
        due("5: there", x.removeOrder(0, 2), 1);
        due("5: gone", x.removeOrder(0, 2), 0);
        due("5: after, but no order", x.after(0, 2), true);
        due("5: there", x.removeOrder(1, 2), 1);
        due("5: no longer after", x.after(0, 2), false);
        due("5: no longer a circle", x.addOrder(2, 0), 1);
        for (int v : WRONG_NUMBERS) {
            due("5: removeOrder(" + v + ", 0)", x.removeOrder(v, 0), CoffmanGraham.BAD);
            due("5: removeOrder(0, " + v + ")", x.removeOrder(0, v), CoffmanGraham.BAD);
        }
        due("5: removeOrder(4, 1) of 4", x.removeOrder(4, 1), CoffmanGraham.BAD);
        due("5: removeOrder(1, 4) of 4", x.removeOrder(1, 4), CoffmanGraham.BAD);
        due("5: the others stay", x.after(2, 1), true);
    }

    private static void tasks() {
        CoffmanGraham x = made(8, "01");
        due("6: tasks()", x.tasks(), 8);
        x.addTask();
        due("6: tasks() after addTask", x.tasks(), 9);
        x.addTask();
        due("6: tasks() after FULL", x.tasks(), 9);
        x.removeTask(4);
        due("6: tasks() after removeTask", x.tasks(), 8);
        x.removeTask(8);
        due("6: tasks() after BAD", x.tasks(), 8);
        x.without(0);
        due("6: without takes nothing away", x.tasks(), 8);
        due("6: without takes no order away", x.after(0, 1), true);
    }

    private static void after() {
        // The list runs up and down through the numbers, so that no one pass in their order finds it.
        CoffmanGraham x = made(9, "48", "80", "07", "71", "16", "62", "25", "53");
        int[] list = {4, 8, 0, 7, 1, 6, 2, 5, 3};
        for (int i = 0; i < 9; i++) {
            for (int j = 0; j < 9; j++) {
                due("7: after(" + list[i] + ", " + list[j] + ")", x.after(list[i], list[j]), i < j);
            }
            due("7: height(" + list[i] + ")", x.height(list[i]), 9 - i);
        }
        for (int v : WRONG_NUMBERS) {
            due("7: after(" + v + ", 0)", x.after(v, 0), false);
            due("7: after(4, " + v + ")", x.after(4, v), false);
            due("7: after(" + v + ", " + v + ")", x.after(v, v), false);
        }
        CoffmanGraham y = made(3, "02");
        due("7: after(0, 2)", y.after(0, 2), true);
        y.removeTask(2);
        due("7: after(0, 2) of 2", y.after(0, 2), false);
    }

    private static void height() {
        CoffmanGraham x = made(7, "01", "02", "23", "34", "14", "04");
        int[] want = {4, 2, 3, 2, 1, 1, 1};
        for (int u = 0; u < 7; u++) {
            due("8: height(" + u + ")", x.height(u), want[u]);
        }
        due("8: height(7) of 7", x.height(7), CoffmanGraham.BAD);
        for (int v : WRONG_NUMBERS) {
            due("8: height(" + v + ")", x.height(v), CoffmanGraham.BAD);
        }
        x.removeOrder(2, 3);
        due("8: height(0) with the long list cut", x.height(0), 3);
        due("8: height(0) of none", new CoffmanGraham(0).height(0), CoffmanGraham.BAD);
    }

    private static void superfluous() {
        due("9: none", new CoffmanGraham(0).superfluous(), 0);
        CoffmanGraham x = made(4, "01", "12", "23");
        due("9: a list", x.superfluous(), 0);
        x.addOrder(0, 3);
        due("9: over two tasks", x.superfluous(), 1);
        x.addOrder(0, 2);
        x.addOrder(1, 3);
        due("9: three", x.superfluous(), 3);
        // What makes an order superfluous may be superfluous itself.
        x.removeOrder(1, 2);
        due("9: 0-3 alone", x.superfluous(), 1);
        x.removeOrder(0, 1);
        x.removeOrder(0, 2);
        due("9: none left", x.superfluous(), 0);

        CoffmanGraham all = new CoffmanGraham(9);
        for (int u = 0; u < 9; u++) {
            for (int v = u + 1; v < 9; v++) {
                all.addOrder(u, v);
            }
        }
        due("9: all of 36 but 8", all.superfluous(), 28);
        due("9: all in trees", all.inTrees(), true);
    }

    private static void inTrees() {
        due("10: none", new CoffmanGraham(0).inTrees(), true);
        due("10: no orders", new CoffmanGraham(9).inTrees(), true);
        due("10: many before one", made(4, "03", "13", "23").inTrees(), true);
        due("10: one before two", made(3, "01", "02").inTrees(), false);
        CoffmanGraham x = made(3, "01", "02", "12");
        due("10: the second is superfluous", x.inTrees(), true);
        x.removeOrder(1, 2);
        due("10: now it is not", x.inTrees(), false);
        x.removeOrder(0, 2);
        due("10: now it is gone", x.inTrees(), true);
        due("10: the last task counts too", made(9, "87", "86").inTrees(), false);
        due("10: superfluous over two", made(4, "12", "23", "30", "10").inTrees(), true);
    }

    private static void shortest() {
        CoffmanGraham none = new CoffmanGraham(0);
        CoffmanGraham free = new CoffmanGraham(9);
        int[] lengths = {0, 9, 5, 3, 3, 2, 2, 2, 2, 1};
        for (int m = 1; m <= 9; m++) {
            due("11: shortest(" + m + ") of none", none.shortest(m), 0);
            due("11: shortest(" + m + ") of nine free", free.shortest(m), lengths[m]);
        }
        CoffmanGraham fork = made(3, "01", "02");
        int[] wrongProcessors = {0, -1, 10, 33, Integer.MIN_VALUE, Integer.MAX_VALUE};
        for (int m : wrongProcessors) {
            due("11: shortest(" + m + ")", free.shortest(m), CoffmanGraham.BAD);
            due("11: BAD comes before NONE", fork.shortest(m), CoffmanGraham.BAD);
            due("11: shortest(" + m + ") of none", none.shortest(m), CoffmanGraham.BAD);
        }
        due("11: fork on 1", fork.shortest(1), 3);
        due("11: fork on 2", fork.shortest(2), 2);
        for (int m = 3; m <= 9; m++) {
            due("11: fork on " + m, fork.shortest(m), CoffmanGraham.NONE);
        }
        CoffmanGraham list = made(9, "01", "12", "23", "34", "45", "56", "67", "78");
        for (int m = 1; m <= 9; m++) {
            due("11: list on " + m, list.shortest(m), 9);
        }

        // The list must begin at once: who takes the tasks by number needs one slot more.
        due("11: long list last", made(6, "34", "45").shortest(2), 3);
        due("11: long list last on 3", made(9, "67", "78").shortest(3), 3);
        // Heights alone do not decide here: 0, 1 and 2 are as high, but who begins with 0 and 1 needs four slots.
        due("11: ties of height", made(6, "03", "15", "23", "24", "25").shortest(2), 3);
        // A superfluous order changes no length, and does not take the tasks out of trees.
        CoffmanGraham x = made(9, "03", "13", "23", "34", "58", "68", "78");
        due("11: trees on 3", x.shortest(3), 4);
        due("11: trees on 4", x.shortest(4), 3);
        x.addOrder(0, 4);
        due("11: the same on 3", x.shortest(3), 4);
        due("11: the same on 4", x.shortest(4), 3);
    }

    private static void without() {
        CoffmanGraham list = made(3, "01", "12");
        due("12: the middle: no new order arises", list.without(1), 1);
        due("12: the first", list.without(0), 2);
        due("12: the last", list.without(2), 2);
        list.addOrder(0, 2);
        due("12: the middle, with 0-2", list.without(1), 2);
        due("12: all", list.shortest(2), 3);
        due("12: the only one", new CoffmanGraham(1).without(0), 0);
        due("12: nine free", new CoffmanGraham(9).without(8), 4);
        due("12: eight free", new CoffmanGraham(8).without(0), 4);
        // Two processors always, also where the tasks are not in trees.
        due("12: not in trees", made(5, "01", "02", "03", "04").without(4), 3);
        due("12: without(3) of 3", list.without(3), CoffmanGraham.BAD);
        for (int v : WRONG_NUMBERS) {
            due("12: without(" + v + ")", list.without(v), CoffmanGraham.BAD);
        }
        due("12: without(0) of none", new CoffmanGraham(0).without(0), CoffmanGraham.BAD);
    }

    /** The same question before and after each kind of change: no answer may be kept from before. */
    private static void lengthsFollowChanges() {
        CoffmanGraham x = new CoffmanGraham(4);
        due("11: four free", x.shortest(2), 2);
        x.addOrder(0, 1);
        x.addOrder(1, 2);
        due("11: after addOrder", x.shortest(2), 3);
        x.removeOrder(1, 2);
        due("11: after removeOrder", x.shortest(2), 2);
        x.addTask();
        due("11: after addTask", x.shortest(2), 3);
        x.addOrder(0, 2);
        x.addOrder(2, 3);
        x.addOrder(3, 4);
        due("11: before removeTask", x.shortest(2), 4);
        x.removeTask(2);
        x.addTask();
        due("11: as many tasks, after removeTask and addTask", x.shortest(2), 3);

        CoffmanGraham y = made(3, "01");
        due("12: before a change", y.without(2), 2);
        y.removeOrder(0, 1);
        due("12: after removeOrder", y.without(2), 1);
        y.addOrder(1, 0);
        due("12: after addOrder", y.without(2), 2);
        y.removeTask(0);
        y.addTask();
        due("12: after removeTask and addTask", y.without(2), 1);
    }

    /** README.md shows these calls with these answers. */
    private static void readmeExample() {
        CoffmanGraham plan = new CoffmanGraham(3);
        due("README: addOrder(0, 2)", plan.addOrder(0, 2), 1);
        due("README: addOrder(2, 0)", plan.addOrder(2, 0), CoffmanGraham.CIRCLE);
        due("README: height(0)", plan.height(0), 2);
        due("README: shortest(2)", plan.shortest(2), 2);
        due("README: without(0)", plan.without(0), 1);
        due("README: addTask()", plan.addTask(), 3);
        due("README: addOrder(0, 3)", plan.addOrder(0, 3), 1);
        due("README: inTrees()", plan.inTrees(), false);
        due("README: shortest(3)", plan.shortest(3), CoffmanGraham.NONE);
        due("README: removeTask(1)", plan.removeTask(1), 3);
        due("README: after(0, 2)", plan.after(0, 2), true);
    }

    private static void constants() {
        due("BAD", CoffmanGraham.BAD, -1);
        due("NONE", CoffmanGraham.NONE, -2);
        due("FULL", CoffmanGraham.FULL, -3);
        due("CIRCLE", CoffmanGraham.CIRCLE, -4);
    }

    public static void main(String[] args) {
        constants();
        newObject();
        addTask();
        removeTask();
        addOrder();
        removeOrder();
        tasks();
        after();
        height();
        superfluous();
        inTrees();
        shortest();
        without();
        lengthsFollowChanges();
        readmeExample();
        System.out.println(checked + " answers, " + wrong + " not as due");
        if (wrong != 0) {
            System.exit(1);
        }
    }
}
