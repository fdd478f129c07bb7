// One method for each promise of the document: ordinary inputs, the edges that
// it names, and wrong inputs. The answers due are worked out by hand.
public final class PromisesTest {
    private static final int BAD_ARG = -1000000001;
    private static final int FULL = -1000000002;
    private static final int NONE = -1000000003;
    private static final int DONE = 0;
    private static final int TIRED = 1;
    private static final int OPEN = 2;
    private static final int MIN = Integer.MIN_VALUE;
    private static final int MAX = Integer.MAX_VALUE;

    private static String promise = "";
    private static int wrong = 0;

    private static void due(String call, int got, int want) {
        if (got != want) {
            wrong++;
            System.out.println(promise + ": " + call + " answered " + got + ", due is " + want);
        }
    }

    public static void main(String[] args) {
        newObject();
        input();
        constant();
        operationResults();
        operationTimes();
        operationRefused();
        when();
        whenTimes();
        whenRefused();
        otherwise();
        otherwiseRefused();
        repeat();
        repeatTimes();
        repeatRefused();
        close();
        closeRefused();
        undo();
        undoOfBlocks();
        clear();
        run();
        runAtTheEdge();
        value();
        time();
        go();
        steps();
        widest();
        at();
        last();
        orderAndLimits();
        System.out.println(wrong == 0 ? "all answers are as due" : wrong + " answers are not as due");
        if (wrong != 0) {
            System.exit(1);
        }
    }

    private static TokenGraphs withInputs(int x0, int x1, int x2, int x3) {
        TokenGraphs x = new TokenGraphs();
        x.input(0, x0);
        x.input(1, x1);
        x.input(2, x2);
        x.input(3, x3);
        return x;
    }

    private static void dueValues(TokenGraphs x, int... want) {
        for (int v = 0; v < 4; v++) {
            for (int order = 0; order < 3; order++) {
                due("value(" + v + ", " + order + ")", x.value(v, order), want[v]);
            }
        }
    }

    // The times of the four variables and of the go.
    private static void dueTimes(TokenGraphs x, int... want) {
        for (int v = 0; v < 4; v++) {
            due("time(" + v + ")", x.time(v), want[v]);
        }
        due("go()", x.go(), want[4]);
    }

    // The numbers of steps at the times 1, 2, and so on up to the last one.
    private static void dueSteps(TokenGraphs x, int... want) {
        int all = 0;
        int most = 0;
        for (int t = 1; t <= want.length; t++) {
            due("at(" + t + ")", x.at(t), want[t - 1]);
            all += want[t - 1];
            most = Math.max(most, want[t - 1]);
        }
        due("at(0)", x.at(0), 0);
        due("at(" + (want.length + 1) + ")", x.at(want.length + 1), 0);
        due("steps()", x.steps(), all);
        due("widest()", x.widest(), most);
        due("last()", x.last(), want.length);
    }

    private static void dueNoResults(TokenGraphs x) {
        dueValues(x, NONE, NONE, NONE, NONE);
        dueTimes(x, NONE, NONE, NONE, NONE, NONE);
        due("steps()", x.steps(), NONE);
        due("widest()", x.widest(), NONE);
        for (int t : new int[] {MIN, -1, 0, 1, 2, 400, 401, MAX}) {
            due("at(" + t + ")", x.at(t), NONE);
        }
        due("last()", x.last(), NONE);
    }

    // 20 lines that count variable 0 up by variable 3, one after the other.
    private static TokenGraphs fullOfAdditions() {
        TokenGraphs x = withInputs(0, 0, 0, 1);
        for (int n = 1; n <= 20; n++) {
            due("operation(0, 0, 0, 3)", x.operation(0, 0, 0, 3), n);
        }
        return x;
    }

    private static void dueStillFullOfAdditions(TokenGraphs x) {
        due("run()", x.run(), DONE);
        dueValues(x, 20, 0, 0, 1);
        due("steps()", x.steps(), 20);
        due("last()", x.last(), 20);
        due("undo()", x.undo(), 19);
    }

    private static void newObject() {
        promise = "1 (A new object)";
        TokenGraphs x = new TokenGraphs();
        due("run()", x.run(), DONE);
        dueValues(x, 0, 0, 0, 0);
        dueTimes(x, 0, 0, 0, 0, 0);
        dueSteps(x);
        due("undo()", x.undo(), NONE);
        due("close()", x.close(), NONE);
        due("otherwise()", x.otherwise(), NONE);
        for (int v = 0; v < 4; v++) {
            due("input(" + v + ", 8)", x.input(v, 8), 0);
        }
        TokenGraphs other = new TokenGraphs();
        dueValues(other, 0, 0, 0, 0);
        due("constant(0, 1)", x.constant(0, 1), 1);
        due("undo() of the other object", other.undo(), NONE);
    }

    private static void input() {
        promise = "2 (input)";
        TokenGraphs x = new TokenGraphs();
        due("input(0, 7)", x.input(0, 7), 0);
        due("input(0, -3)", x.input(0, -3), 7);
        due("input(3, MIN)", x.input(3, MIN), 0);
        due("input(3, MAX)", x.input(3, MAX), MIN);
        due("input(1, BAD_ARG)", x.input(1, BAD_ARG), 0);
        due("input(1, 1)", x.input(1, 1), BAD_ARG);
        for (int v : new int[] {-1, 4, 5, MIN, MAX}) {
            due("input(" + v + ", 9)", x.input(v, 9), BAD_ARG);
        }
        dueValues(x, -3, 1, 0, MAX);
        dueTimes(x, 0, 0, 0, 0, 0);
        dueSteps(x);
        // A run leaves what the variables are at the begin as it was.
        x.operation(0, 0, 0, 1);
        due("run()", x.run(), DONE);
        dueValues(x, -2, 1, 0, MAX);
        due("input(0, 5)", x.input(0, 5), -3);
        dueValues(x, 6, 1, 0, MAX);
        x.undo();
        x.clear();
        dueValues(x, 5, 1, 0, MAX);
    }

    private static void constant() {
        promise = "3 (constant)";
        TokenGraphs x = withInputs(1, 2, 3, 4);
        due("constant(0, 50)", x.constant(0, 50), 1);
        due("constant(3, MIN)", x.constant(3, MIN), 2);
        dueValues(x, 50, 2, 3, MIN);
        dueTimes(x, 1, 0, 0, 1, 0);
        dueSteps(x, 2);
        // It needs the go alone, not the value that it takes the place of.
        due("operation(1, 0, 0, 3)", x.operation(1, 0, 0, 3), 3);
        due("constant(1, NONE)", x.constant(1, NONE), 4);
        dueValues(x, 50, NONE, 3, MIN);
        dueTimes(x, 1, 1, 0, 1, 0);
        dueSteps(x, 3, 1);
        // Behind the choosing steps of a late variable the go is late, too.
        due("operation(0, 0, 0, 0)", x.operation(0, 0, 0, 0), 5);
        due("when(0)", x.when(0), 6);
        due("constant(2, 8)", x.constant(2, 8), 7);
        due("close()", x.close(), 8);
        dueValues(x, 100, NONE, 8, MIN);
        dueTimes(x, 4, 4, 5, 4, 4);
        dueSteps(x, 3, 2, 5, 5, 1);
        for (int v : new int[] {-1, 4, MIN, MAX}) {
            due("constant(" + v + ", 1)", x.constant(v, 1), BAD_ARG);
        }
        due("constant(0, 1)", x.constant(0, 1), 9);
        TokenGraphs full = fullOfAdditions();
        due("constant(4, 1)", full.constant(4, 1), BAD_ARG);
        due("constant(-1, 1)", full.constant(-1, 1), BAD_ARG);
        due("constant(0, 1)", full.constant(0, 1), FULL);
        dueStillFullOfAdditions(full);
        due("constant(0, 1)", full.constant(0, 1), 20);
        due("constant(0, 1)", full.constant(0, 1), FULL);
        dueValues(full, 1, 0, 0, 1);
    }

    private static void dueResult(int kind, int a, int b, int want) {
        TokenGraphs x = withInputs(a, b, 77, 78);
        due("operation(2, " + kind + ", 0, 1)", x.operation(2, kind, 0, 1), 1);
        due("kind " + kind + " of " + a + " and " + b, x.value(2, 0), want);
        due("value(0, 0)", x.value(0, 0), a);
        due("value(1, 0)", x.value(1, 0), b);
        due("value(3, 0)", x.value(3, 0), 78);
    }

    private static void operationResults() {
        promise = "4 (operation)";
        dueResult(0, 3, 4, 7);
        dueResult(0, MAX, 1, MIN);
        dueResult(1, 3, 4, -1);
        dueResult(1, MIN, 1, MAX);
        dueResult(1, 0, MIN, MIN);
        dueResult(2, -3, 4, -12);
        dueResult(2, 65536, 65536, 0);
        dueResult(2, 46341, 46341, -2147479015);
        dueResult(2, MIN, -1, MIN);
        dueResult(3, 3, 4, 1);
        dueResult(3, 4, 3, 0);
        dueResult(3, 4, 4, 0);
        dueResult(3, MIN, MAX, 1);
        dueResult(3, MAX, MIN, 0);
        dueResult(3, -1, 0, 1);
        dueResult(4, 4, 4, 1);
        dueResult(4, 3, 4, 0);
        dueResult(4, MIN, MAX, 0);
        dueResult(4, MIN, MIN, 1);
        // The target may be one of the two it is made from, or both.
        TokenGraphs x = withInputs(10, 3, 0, 0);
        x.operation(0, 1, 0, 1);
        x.operation(1, 1, 0, 1);
        x.operation(0, 2, 0, 0);
        dueValues(x, 49, 4, 0, 0);
    }

    private static void operationTimes() {
        promise = "4 (operation)";
        TokenGraphs x = withInputs(1, 1, 1, 1);
        due("operation(0, 0, 0, 0)", x.operation(0, 0, 0, 0), 1);
        due("operation(0, 0, 0, 0)", x.operation(0, 0, 0, 0), 2);
        due("operation(1, 0, 1, 0)", x.operation(1, 0, 1, 0), 3);
        due("operation(2, 0, 0, 3)", x.operation(2, 0, 0, 3), 4);
        due("operation(3, 0, 1, 0)", x.operation(3, 0, 1, 0), 5);
        dueValues(x, 4, 5, 5, 9);
        dueTimes(x, 2, 3, 3, 4, 0);
        dueSteps(x, 1, 1, 2, 1);
        // It does not need what its target was before.
        x.input(0, 2);
        x.clear();
        x.operation(0, 0, 0, 0);
        x.operation(0, 0, 0, 0);
        x.operation(0, 0, 1, 2);
        dueTimes(x, 1, 0, 0, 0, 0);
        dueSteps(x, 2, 1);
    }

    private static void operationRefused() {
        promise = "4 (operation)";
        TokenGraphs full = fullOfAdditions();
        TokenGraphs empty = new TokenGraphs();
        for (TokenGraphs x : new TokenGraphs[] {empty, full}) {
            for (int bad : new int[] {-1, 4, MIN, MAX}) {
                due("operation(" + bad + ", 0, 0, 0)", x.operation(bad, 0, 0, 0), BAD_ARG);
                due("operation(0, 0, " + bad + ", 0)", x.operation(0, 0, bad, 0), BAD_ARG);
                due("operation(0, 0, 0, " + bad + ")", x.operation(0, 0, 0, bad), BAD_ARG);
            }
            for (int kind : new int[] {-1, 5, 6, MIN, MAX}) {
                due("operation(0, " + kind + ", 0, 0)", x.operation(0, kind, 0, 0), BAD_ARG);
            }
        }
        due("operation(3, 4, 3, 3)", empty.operation(3, 4, 3, 3), 1);
        due("operation(0, 0, 0, 3)", full.operation(0, 0, 0, 3), FULL);
        dueStillFullOfAdditions(full);
    }

    private static TokenGraphs choiceOf(int c) {
        TokenGraphs x = withInputs(0, c, 0, 0);
        due("when(1)", x.when(1), 1);
        x.constant(0, 11);
        x.otherwise();
        x.constant(0, 22);
        x.close();
        return x;
    }

    private static void when() {
        promise = "5 (when)";
        for (int c : new int[] {1, 2, -1, MIN, MAX}) {
            dueValues(choiceOf(c), 11, c, 0, 0);
        }
        dueValues(choiceOf(0), 22, 0, 0, 0);
        // Its program may change the variable that it has chosen by.
        TokenGraphs x = withInputs(5, 0, 0, 0);
        due("when(0)", x.when(0), 1);
        x.constant(0, 0);
        x.constant(1, 6);
        x.close();
        dueValues(x, 0, 6, 0, 0);
        dueTimes(x, 3, 3, 2, 2, 2);
        dueSteps(x, 5, 5, 2);
        x.input(0, 0);
        dueValues(x, 0, 0, 0, 0);
        dueTimes(x, 2, 2, 2, 2, 2);
        dueSteps(x, 5, 5);
    }

    private static void whenTimes() {
        promise = "5 (when)";
        TokenGraphs x = withInputs(1, 1, 1, 1);
        x.operation(1, 0, 1, 1);
        x.operation(1, 0, 1, 1);
        x.operation(1, 0, 1, 1);
        x.operation(0, 0, 0, 0);
        due("when(0)", x.when(0), 5);
        due("close()", x.close(), 6);
        dueValues(x, 2, 8, 1, 1);
        dueTimes(x, 3, 5, 3, 3, 3);
        dueSteps(x, 2, 5, 5, 1, 1);
        x.undo();
        x.undo();
        // The late variable lets the early ones wait.
        x.when(1);
        x.close();
        dueTimes(x, 5, 5, 5, 5, 5);
        dueSteps(x, 2, 1, 1, 5, 5);
    }

    private static void whenRefused() {
        promise = "5 (when)";
        TokenGraphs full = fullOfAdditions();
        TokenGraphs deep = new TokenGraphs();
        for (int n = 1; n <= 4; n++) {
            due("when(0)", deep.when(0), n);
        }
        for (TokenGraphs x : new TokenGraphs[] {new TokenGraphs(), full, deep}) {
            for (int c : new int[] {-1, 4, MIN, MAX}) {
                due("when(" + c + ")", x.when(c), BAD_ARG);
            }
        }
        due("when(0)", deep.when(0), FULL);
        due("repeat(0)", deep.repeat(0), FULL);
        due("constant(0, 1)", deep.constant(0, 1), 5);
        due("close()", deep.close(), 6);
        due("when(0)", deep.when(0), 7);
        due("when(0)", deep.when(0), FULL);
        due("otherwise()", deep.otherwise(), 8);
        due("when(0)", deep.when(0), FULL);
        for (int n = 9; n <= 12; n++) {
            due("close()", deep.close(), n);
        }
        due("close()", deep.close(), NONE);
        due("run()", deep.run(), DONE);
        due("when(0)", full.when(0), FULL);
        dueStillFullOfAdditions(full);
        due("when(0)", full.when(0), 20);
        due("run()", full.run(), OPEN);
    }

    private static void otherwise() {
        promise = "6 (otherwise)";
        TokenGraphs x = withInputs(0, 1, 0, 0);
        x.when(0);
        x.constant(1, 10);
        due("otherwise()", x.otherwise(), 3);
        x.constant(2, 20);
        x.constant(2, 30);
        x.close();
        dueValues(x, 0, 1, 30, 0);
        dueTimes(x, 2, 2, 3, 2, 2);
        dueSteps(x, 5, 6, 1);
        x.input(0, 1);
        dueValues(x, 1, 10, 0, 0);
        dueTimes(x, 2, 3, 2, 2, 2);
        dueSteps(x, 5, 5, 1);
        // Empty on both sides, and without it.
        x.clear();
        x.when(0);
        due("otherwise()", x.otherwise(), 2);
        x.close();
        dueSteps(x, 5, 5);
        x.input(0, 0);
        dueSteps(x, 5, 5);
        dueValues(x, 0, 1, 0, 0);
        // It belongs to the innermost open one.
        x.clear();
        x.when(0);
        x.when(1);
        x.constant(2, 1);
        x.close();
        due("otherwise()", x.otherwise(), 5);
        x.when(1);
        x.constant(2, 2);
        due("otherwise()", x.otherwise(), 8);
        x.constant(2, 3);
        x.close();
        x.close();
        dueValues(x, 0, 1, 2, 0);
        x.input(1, 0);
        dueValues(x, 0, 0, 3, 0);
        x.input(0, 1);
        dueValues(x, 1, 0, 0, 0);
        x.input(1, 1);
        dueValues(x, 1, 1, 1, 0);
    }

    private static void otherwiseRefused() {
        promise = "6 (otherwise)";
        TokenGraphs x = new TokenGraphs();
        due("otherwise()", x.otherwise(), NONE);
        x.constant(0, 1);
        due("otherwise()", x.otherwise(), NONE);
        x.repeat(1);
        due("otherwise() in a repeat", x.otherwise(), NONE);
        x.when(1);
        x.repeat(1);
        due("otherwise() in a repeat in a when", x.otherwise(), NONE);
        x.close();
        due("otherwise()", x.otherwise(), 6);
        due("otherwise() said", x.otherwise(), NONE);
        x.when(1);
        x.otherwise();
        x.close();
        due("otherwise() said before an inner when", x.otherwise(), NONE);
        x.close();
        due("otherwise() behind the when", x.otherwise(), NONE);
        due("close()", x.close(), 11);
        due("otherwise() with none open", x.otherwise(), NONE);
        due("run()", x.run(), DONE);
        TokenGraphs full = fullOfAdditions();
        due("otherwise() with 20 lines", full.otherwise(), NONE);
        full.undo();
        full.when(0);
        due("otherwise()", full.otherwise(), FULL);
        full.undo();
        full.undo();
        full.when(0);
        due("otherwise()", full.otherwise(), 20);
        due("otherwise() said, with 20 lines", full.otherwise(), NONE);
        full.undo();
        full.undo();
        full.repeat(0);
        full.constant(0, 0);
        due("otherwise() in a repeat, with 20 lines", full.otherwise(), NONE);
    }

    private static TokenGraphs countDown(int from) {
        TokenGraphs x = withInputs(from, 0, 0, 1);
        due("repeat(0)", x.repeat(0), 1);
        due("operation(0, 1, 0, 3)", x.operation(0, 1, 0, 3), 2);
        due("operation(1, 0, 1, 3)", x.operation(1, 0, 1, 3), 3);
        due("close()", x.close(), 4);
        return x;
    }

    private static void repeat() {
        promise = "7 (repeat)";
        dueValues(countDown(0), 0, 0, 0, 1);
        dueValues(countDown(1), 0, 1, 0, 1);
        dueValues(countDown(9), 0, 9, 0, 1);
        // Any value but 0 goes on, a negative one as well.
        TokenGraphs x = withInputs(-3, 0, 0, 1);
        due("repeat(0)", x.repeat(0), 1);
        x.operation(0, 0, 0, 3);
        x.operation(1, 0, 1, 3);
        x.close();
        dueValues(x, 0, 3, 0, 1);
        x.clear();
        x.input(2, MIN);
        x.repeat(2);
        x.operation(2, 0, 2, 2);
        x.constant(1, 5);
        x.close();
        dueValues(x, -3, 5, 0, 1);
        // Its program is carried out to its end when it makes the variable 0.
        x.clear();
        x.repeat(0);
        x.constant(0, 0);
        x.constant(1, 6);
        x.close();
        dueValues(x, 0, 6, MIN, 1);
    }

    private static void repeatTimes() {
        promise = "7 (repeat)";
        TokenGraphs x = countDown(0);
        dueTimes(x, 3, 3, 3, 3, 3);
        dueSteps(x, 5, 5, 5);
        // Joining at 1 and choosing at 2; the two operations at 3, together
        // with the joining of the other three; 0 and 1 join at 4; all are
        // chosen at 5, behind 0.
        x = countDown(1);
        dueTimes(x, 6, 6, 6, 6, 6);
        dueSteps(x, 5, 5, 5, 2, 5, 5);
        x = countDown(2);
        dueTimes(x, 9, 9, 9, 9, 9);
        dueSteps(x, 5, 5, 5, 2, 5, 5, 2, 5, 5);
        // Variables that are late at the begin: 0 at 1, and 1 at 3.
        x = withInputs(1, 1, 1, 1);
        x.operation(0, 1, 0, 0);
        x.operation(1, 0, 1, 1);
        x.operation(1, 0, 1, 1);
        x.operation(1, 0, 1, 1);
        x.repeat(0);
        x.close();
        dueValues(x, 0, 8, 1, 1);
        dueTimes(x, 4, 6, 4, 4, 4);
        dueSteps(x, 5, 2, 5, 5, 1, 1);
    }

    private static void repeatRefused() {
        promise = "7 (repeat)";
        TokenGraphs full = fullOfAdditions();
        TokenGraphs deep = new TokenGraphs();
        for (int n = 1; n <= 4; n++) {
            due("repeat(0)", deep.repeat(0), n);
        }
        for (TokenGraphs x : new TokenGraphs[] {new TokenGraphs(), full, deep}) {
            for (int c : new int[] {-1, 4, MIN, MAX}) {
                due("repeat(" + c + ")", x.repeat(c), BAD_ARG);
            }
        }
        due("repeat(0)", deep.repeat(0), FULL);
        due("when(0)", deep.when(0), FULL);
        due("close()", deep.close(), 5);
        due("repeat(3)", deep.repeat(3), 6);
        due("repeat(3)", deep.repeat(3), FULL);
        for (int n = 7; n <= 10; n++) {
            due("close()", deep.close(), n);
        }
        due("run()", deep.run(), DONE);
        due("steps()", deep.steps(), 15);
        due("repeat(0)", full.repeat(0), FULL);
        dueStillFullOfAdditions(full);
        due("repeat(0)", full.repeat(0), 20);
        due("run()", full.run(), OPEN);
    }

    private static void close() {
        promise = "8 (close)";
        // The innermost one is closed, and the one around it is open again.
        TokenGraphs x = withInputs(1, 2, 0, 1);
        x.when(0);
        x.repeat(1);
        x.operation(1, 1, 1, 3);
        due("close()", x.close(), 4);
        due("run()", x.run(), OPEN);
        x.constant(2, 4);
        due("otherwise()", x.otherwise(), 6);
        x.repeat(0);
        due("close()", x.close(), 8);
        due("run()", x.run(), OPEN);
        due("otherwise()", x.otherwise(), NONE);
        due("close()", x.close(), 9);
        due("run()", x.run(), DONE);
        x.constant(3, 8);
        dueValues(x, 1, 0, 4, 8);
        due("steps()", x.steps(), 5 + 15 + 2 * 11 + 1 + 5 + 1);
        x.input(0, 0);
        dueValues(x, 0, 2, 0, 8);
        due("steps()", x.steps(), 5 + 15 + 5 + 1);
    }

    private static void closeRefused() {
        promise = "8 (close)";
        TokenGraphs x = new TokenGraphs();
        due("close()", x.close(), NONE);
        x.constant(0, 1);
        due("close()", x.close(), NONE);
        x.when(0);
        due("close()", x.close(), 3);
        due("close()", x.close(), NONE);
        due("run()", x.run(), DONE);
        TokenGraphs full = fullOfAdditions();
        due("close() with 20 lines", full.close(), NONE);
        dueStillFullOfAdditions(full);
        full.when(0);
        due("close() with 20 lines", full.close(), FULL);
        due("run()", full.run(), OPEN);
        full.undo();
        full.undo();
        full.when(1);
        due("close()", full.close(), 20);
        due("close()", full.close(), NONE);
        due("run()", full.run(), DONE);
        dueValues(full, 18, 0, 0, 1);
    }

    private static void undo() {
        promise = "9 (undo)";
        TokenGraphs x = withInputs(1, 2, 3, 4);
        due("undo()", x.undo(), NONE);
        x.constant(0, 5);
        x.operation(1, 0, 0, 2);
        x.operation(1, 2, 1, 1);
        dueValues(x, 5, 64, 3, 4);
        due("undo()", x.undo(), 2);
        dueValues(x, 5, 8, 3, 4);
        due("constant(2, 6)", x.constant(2, 6), 3);
        dueValues(x, 5, 8, 6, 4);
        due("undo()", x.undo(), 2);
        due("undo()", x.undo(), 1);
        dueValues(x, 5, 2, 3, 4);
        dueSteps(x, 1);
        due("undo()", x.undo(), 0);
        dueValues(x, 1, 2, 3, 4);
        due("undo()", x.undo(), NONE);
        due("constant(0, 7)", x.constant(0, 7), 1);
        TokenGraphs full = fullOfAdditions();
        for (int n = 19; n >= 0; n--) {
            due("undo()", full.undo(), n);
            due("steps()", full.steps(), n);
        }
        due("undo()", full.undo(), NONE);
    }

    private static void undoOfBlocks() {
        promise = "9 (undo)";
        TokenGraphs x = withInputs(0, 1, 2, 3);
        x.when(0);
        due("undo() of a when", x.undo(), 0);
        due("run()", x.run(), DONE);
        due("close()", x.close(), NONE);
        x.repeat(0);
        due("otherwise()", x.otherwise(), NONE);
        due("undo() of a repeat", x.undo(), 0);
        due("run()", x.run(), DONE);
        x.when(0);
        x.constant(1, 10);
        x.otherwise();
        due("undo() of an otherwise", x.undo(), 2);
        due("close()", x.close(), 3);
        dueValues(x, 0, 1, 2, 3);
        due("undo() of a close", x.undo(), 2);
        due("run()", x.run(), OPEN);
        due("otherwise()", x.otherwise(), 3);
        due("otherwise()", x.otherwise(), NONE);
        x.constant(1, 20);
        x.close();
        dueValues(x, 0, 20, 2, 3);
        due("undo() of a close", x.undo(), 4);
        due("otherwise() said before the close", x.otherwise(), NONE);
        x.constant(2, 30);
        due("close()", x.close(), 6);
        dueValues(x, 0, 20, 30, 3);
        // A repeat in the place where a when was.
        for (int n = 5; n >= 0; n--) {
            due("undo()", x.undo(), n);
        }
        x.input(0, 1);
        x.repeat(0);
        x.constant(0, 0);
        due("otherwise()", x.otherwise(), NONE);
        x.close();
        dueValues(x, 0, 1, 2, 3);
        due("steps()", x.steps(), 26);
        // Undoing one of four open ones makes room for another.
        TokenGraphs deep = new TokenGraphs();
        for (int n = 1; n <= 4; n++) {
            deep.when(0);
        }
        due("undo()", deep.undo(), 3);
        due("repeat(0)", deep.repeat(0), 4);
        due("close()", deep.close(), 5);
        due("undo()", deep.undo(), 4);
        due("repeat(0)", deep.repeat(0), FULL);
    }

    private static void clear() {
        promise = "10 (clear)";
        TokenGraphs x = new TokenGraphs();
        x.clear();
        due("run()", x.run(), DONE);
        x = fullOfAdditions();
        x.clear();
        due("undo()", x.undo(), NONE);
        dueValues(x, 0, 0, 0, 1);
        dueTimes(x, 0, 0, 0, 0, 0);
        dueSteps(x);
        for (int n = 1; n <= 4; n++) {
            due("when(0)", x.when(0), n);
        }
        due("run()", x.run(), OPEN);
        x.clear();
        due("run()", x.run(), DONE);
        due("close()", x.close(), NONE);
        due("otherwise()", x.otherwise(), NONE);
        for (int n = 1; n <= 4; n++) {
            due("repeat(0)", x.repeat(0), n);
        }
        x.clear();
        for (int n = 1; n <= 20; n++) {
            due("constant(1, n)", x.constant(1, n), n);
        }
        due("constant(1, 21)", x.constant(1, 21), FULL);
        dueValues(x, 0, 20, 0, 1);
        due("input(3, 0)", x.input(3, 0), 1);
    }

    private static void run() {
        promise = "11 (run)";
        TokenGraphs x = withInputs(0, 0, 0, 1);
        due("run()", x.run(), DONE);
        x.repeat(0);
        due("run()", x.run(), OPEN);
        x.constant(1, 5);
        due("run()", x.run(), OPEN);
        x.close();
        due("run()", x.run(), DONE);
        due("run()", x.run(), DONE);
        x.input(0, 1);
        due("run()", x.run(), TIRED);
        due("run()", x.run(), TIRED);
        dueNoResults(x);
        x.input(0, 0);
        due("run()", x.run(), DONE);
        dueValues(x, 0, 0, 0, 1);
        x.when(3);
        due("run()", x.run(), OPEN);
        x.otherwise();
        due("run()", x.run(), OPEN);
        x.close();
        due("run()", x.run(), DONE);
        // Endless with an empty program, and with whens in it.
        x.clear();
        x.repeat(3);
        x.close();
        due("run()", x.run(), TIRED);
        x.undo();
        x.when(0);
        x.otherwise();
        x.when(3);
        x.close();
        x.close();
        x.close();
        due("run()", x.run(), TIRED);
    }

    // rounds times 11 steps and 15 more, then as many constants.
    private static TokenGraphs stepsOf(int rounds, int constants) {
        TokenGraphs x = withInputs(rounds, 0, 0, 1);
        x.repeat(0);
        x.operation(0, 1, 0, 3);
        x.close();
        for (int n = 0; n < constants; n++) {
            x.constant(2, n);
        }
        return x;
    }

    private static void dueEnd(String which, TokenGraphs x, int all) {
        due("run() with " + all + " steps, " + which, x.run(), all > 400 ? TIRED : DONE);
        due("steps(), " + which, x.steps(), all > 400 ? NONE : all);
    }

    private static void runAtTheEdge() {
        promise = "11 (run)";
        dueEnd("a repeat last", stepsOf(35, 0), 400);
        dueEnd("a constant last", stepsOf(35, 1), 401);
        dueEnd("constants last", stepsOf(34, 11), 400);
        dueEnd("constants last", stepsOf(34, 12), 401);
        dueEnd("a repeat last", stepsOf(36, 0), 411);
        for (int constants = 0; constants < 4; constants++) {
            TokenGraphs x = stepsOf(34, constants);
            x.when(1);
            x.close();
            dueEnd("a when last", x, 399 + constants);
        }
        for (int constants = 6; constants < 10; constants++) {
            TokenGraphs x = stepsOf(33, constants);
            x.repeat(1);
            x.close();
            dueEnd("a repeat without a round last", x, 393 + constants);
        }
        TokenGraphs x = stepsOf(35, 1);
        due("undo()", x.undo(), 3);
        dueValues(x, 0, 0, 0, 1);
        due("last()", x.last(), 3 * 35 + 3);
        due("constant(2, 9)", x.constant(2, 9), 4);
        dueNoResults(x);
    }

    private static void value() {
        promise = "12 (value)";
        TokenGraphs x = withInputs(3, 8, 0, 1);
        x.operation(0, 0, 0, 1);
        x.operation(1, 1, 0, 1);
        x.operation(0, 1, 0, 1);
        dueValues(x, 8, 3, 0, 1);
        // An early step behind a late one does not come before it.
        x.operation(2, 2, 0, 1);
        x.constant(0, 5);
        x.constant(1, 6);
        dueValues(x, 5, 6, 24, 1);
        for (int bad : new int[] {-1, 4, MIN, MAX}) {
            due("value(" + bad + ", 0)", x.value(bad, 0), BAD_ARG);
        }
        for (int bad : new int[] {-1, 3, 4, MIN, MAX}) {
            due("value(0, " + bad + ")", x.value(0, bad), BAD_ARG);
        }
        x.repeat(3);
        for (int n = 0; n < 2; n++) {
            due("value(3, 2)", x.value(3, 2), NONE);
            due("value(4, 2)", x.value(4, 2), BAD_ARG);
            due("value(-1, 0)", x.value(-1, 0), BAD_ARG);
            due("value(0, 3)", x.value(0, 3), BAD_ARG);
            due("value(0, -1)", x.value(0, -1), BAD_ARG);
            x.close();
        }
    }

    private static void time() {
        promise = "13 (time)";
        TokenGraphs x = withInputs(1, 1, 1, 1);
        x.operation(0, 0, 0, 1);
        x.operation(0, 0, 0, 1);
        x.operation(2, 0, 0, 1);
        x.constant(3, 1);
        dueTimes(x, 2, 0, 3, 1, 0);
        // What is early in the end counts, though late steps were before it.
        x.constant(2, 1);
        dueTimes(x, 2, 0, 1, 1, 0);
        for (int bad : new int[] {-1, 4, 5, MIN, MAX}) {
            due("time(" + bad + ")", x.time(bad), BAD_ARG);
        }
        x.repeat(3);
        for (int n = 0; n < 2; n++) {
            due("time(0)", x.time(0), NONE);
            due("time(3)", x.time(3), NONE);
            due("time(4)", x.time(4), BAD_ARG);
            due("time(-1)", x.time(-1), BAD_ARG);
            x.close();
        }
    }

    private static void go() {
        promise = "14 (go)";
        TokenGraphs x = withInputs(1, 1, 0, 1);
        due("go()", x.go(), 0);
        x.constant(0, 3);
        x.operation(1, 0, 1, 0);
        due("go()", x.go(), 0);
        x.when(1);
        due("go()", x.go(), NONE);
        x.constant(0, 4);
        x.close();
        due("go()", x.go(), 4);
        x.repeat(2);
        x.close();
        due("go()", x.go(), 7);
        x.repeat(3);
        x.close();
        due("go()", x.go(), NONE);
    }

    private static void steps() {
        promise = "15 (steps)";
        TokenGraphs x = withInputs(0, 1, 2, 1);
        due("steps()", x.steps(), 0);
        x.constant(0, 3);
        due("steps()", x.steps(), 1);
        x.operation(0, 0, 0, 0);
        due("steps()", x.steps(), 2);
        x.when(1);
        due("steps()", x.steps(), NONE);
        x.constant(3, 1);
        x.otherwise();
        x.constant(3, 1);
        x.constant(3, 1);
        x.close();
        due("steps()", x.steps(), 13);
        due("steps()", x.steps(), 13);
        x.input(1, 0);
        due("steps()", x.steps(), 14);
        x.repeat(2);
        x.operation(2, 1, 2, 3);
        x.close();
        due("steps()", x.steps(), 14 + 15 + 2 * 11);
        x.input(2, 100);
        due("steps()", x.steps(), NONE);
    }

    private static void widest() {
        promise = "16 (widest)";
        TokenGraphs x = new TokenGraphs();
        due("widest()", x.widest(), 0);
        x.operation(0, 0, 0, 0);
        x.operation(0, 0, 0, 0);
        due("widest()", x.widest(), 1);
        x.constant(1, 1);
        x.constant(1, 1);
        due("widest()", x.widest(), 3);
        x.when(0);
        due("widest()", x.widest(), NONE);
        x.close();
        due("widest()", x.widest(), 5);
        x.clear();
        for (int n = 1; n <= 20; n++) {
            x.constant(n % 4, n);
        }
        due("widest()", x.widest(), 20);
        x.clear();
        x.input(0, 1);
        x.repeat(0);
        x.close();
        due("widest()", x.widest(), NONE);
    }

    private static void at() {
        promise = "17 (at)";
        TokenGraphs x = fullOfAdditions();
        for (int t = 1; t <= 20; t++) {
            due("at(" + t + ")", x.at(t), 1);
        }
        for (int t : new int[] {MIN, -400, -1, 0, 21, 22, 399, 400, 401, 402, 1000, MAX}) {
            due("at(" + t + ")", x.at(t), 0);
        }
        x.clear();
        x.constant(0, 1);
        x.constant(1, 1);
        x.operation(2, 0, 0, 1);
        due("at(1)", x.at(1), 2);
        due("at(2)", x.at(2), 1);
        due("at(3)", x.at(3), 0);
    }

    private static void last() {
        promise = "18 (last)";
        TokenGraphs x = new TokenGraphs();
        due("last()", x.last(), 0);
        x.operation(0, 0, 0, 0);
        x.operation(0, 0, 0, 0);
        x.operation(0, 0, 0, 0);
        due("last()", x.last(), 3);
        // A step whose value nobody has in the end counts as well.
        x.constant(0, 1);
        due("last()", x.last(), 3);
        due("time(0)", x.time(0), 1);
        x.when(0);
        due("last()", x.last(), NONE);
        x.close();
        due("last()", x.last(), 3);
        x.repeat(0);
        x.close();
        due("last()", x.last(), NONE);
    }

    private static void orderAndLimits() {
        promise = "19 (Order and limits)";
        TokenGraphs x = withInputs(1, 0, 0, 0);
        x.when(0);
        due("run()", x.run(), OPEN);
        dueNoResults(x);
        x.close();
        due("run()", x.run(), DONE);
        dueSteps(x, 5, 5);
        x.repeat(0);
        due("run()", x.run(), OPEN);
        dueNoResults(x);
        x.close();
        due("run()", x.run(), TIRED);
        dueNoResults(x);
        // Open goes before tired, wherever the open one is.
        x.when(1);
        due("run()", x.run(), OPEN);
        dueNoResults(x);
        x.close();
        due("run()", x.run(), TIRED);
        x.clear();
        x.when(1);
        x.repeat(0);
        x.close();
        due("run()", x.run(), OPEN);
        x.otherwise();
        due("run()", x.run(), OPEN);
        x.close();
        due("run()", x.run(), DONE);
        dueSteps(x, 5, 5);
        for (int t : new int[] {MIN, -1, 0, 3, 400, 401, MAX}) {
            due("at(" + t + ")", x.at(t), 0);
        }
    }
}
