import java.util.ArrayList;
import java.util.List;

// For each sentence of the document that names a boundary case a test of its
// own, under the sentence's words: the case just inside the boundary, the case
// just outside it, and, where refusals have an order, the one that goes first
// when two are due. The answers due are worked out by hand.
public final class BoundariesTest {
    private static final int BAD_ARG = -1000000001;
    private static final int FULL = -1000000002;
    private static final int NONE = -1000000003;
    private static final int DONE = 0;
    private static final int TIRED = 1;
    private static final int OPEN = 2;
    private static final int MIN = Integer.MIN_VALUE;
    private static final int MAX = Integer.MAX_VALUE;

    private static final int[] NO_VARIABLE = {-1, 4, 5, MIN, MAX};
    private static final int[] NO_KIND = {-1, 5, 6, MIN, MAX};
    private static final int[] NO_ORDER = {-1, 3, 4, MIN, MAX};
    private static final int[] ANY = {MIN, MIN + 1, -401, -400, -1, 0, 1, 2, 3, 4, 5, 19, 20, 21,
        399, 400, 401, 402, MAX - 1, MAX};

    private interface Call {
        int on(TokenGraphs x);
    }

    private interface Program {
        void writeOn(TokenGraphs x);
    }

    private record Named<T>(String name, T it) {
    }

    private static String sentence = "";
    private static int sentences = 0;
    private static int wrong = 0;

    public static void main(String[] args) {
        terms();
        writing();
        questions();
        System.out.println(sentences + " sentences; "
            + (wrong == 0 ? "all answers are as due" : wrong + " answers are not as due"));
        if (wrong != 0) {
            System.exit(1);
        }
    }

    private static void terms() {
        usedFor512Calls();
        wrapping();
        less();
        equal();
        whenNotZero();
        repeatNotZero();
        atTheBegin();
        greatestOfTheTimes();
        asTheyWereBefore();
        moreThan400Steps();
        neverThrows();
        refusedChangesNothing();
    }

    private static void writing() {
        newObject();
        inputVariable();
        inputWhatItWas();
        constantOrder();
        constantLines();
        operationOrder();
        operationLines();
        whenOrder();
        whenLines();
        otherwiseNone();
        otherwiseLines();
        otherwiseEmpty();
        repeatOrder();
        repeatLines();
        closeOrder();
        closeLines();
        undoNone();
        undoLines();
        clearLines();
    }

    private static void questions() {
        howRunsEnd();
        valueOrder();
        orderNeverMatters();
        timeOrder();
        goNone();
        stepsNone();
        widestNone();
        atNone();
        lastNone();
        openWhenever();
        noneJustIfNotDone();
        atAnyInt();
    }

    // How answers are looked at.

    private static void begin(String section, String words) {
        sentence = section + ", \"" + words + "\": ";
        sentences++;
    }

    private static void due(String call, int got, int want) {
        if (got != want) {
            wrong++;
            System.out.println(sentence + call + " answered " + got + ", due is " + want);
        }
    }

    private static void dueSame(String what, List<Integer> got, List<Integer> want) {
        if (!got.equals(want)) {
            wrong++;
            System.out.println(sentence + what + ": what is seen of the object is not as due");
        }
    }

    // Variable 1 is 0 and variable 3 is 1 at the begin.
    private static TokenGraphs made(Program program) {
        TokenGraphs x = new TokenGraphs();
        x.input(0, 5);
        x.input(2, -7);
        x.input(3, 1);
        program.writeOn(x);
        return x;
    }

    private static void refused(String what, Program program, Call call, int code) {
        TokenGraphs x = made(program);
        due(what, call.on(x), code);
        due(what + " again", call.on(x), code);
        List<Integer> after = portrait(then(program, y -> call.on(y)));
        dueSame(what + " changed the object", after, portrait(program));
    }

    // An undo takes away what the call has done, and nothing else.
    private static void appended(String what, Program program, Call call, int lines) {
        TokenGraphs x = made(program);
        due(what, call.on(x), lines);
        due("undo() after " + what, x.undo(), lines - 1);
        List<Integer> after = portrait(then(program, y -> call.on(y), y -> y.undo()));
        dueSame(what + " and undo() changed the object", after, portrait(program));
    }

    // All that can be seen of the object that a program makes, with each of
    // its lines as the last one. Every view takes a new object, because to
    // close what is open changes it.
    private static List<Integer> portrait(Program program) {
        List<Integer> all = new ArrayList<>();
        for (int undone = 0; undone <= 21; undone++) {
            TokenGraphs x = made(program);
            for (int n = 0; n < undone; n++) {
                all.add(x.undo());
            }
            addAnswers(x, all);
            all.add(x.otherwise());
            for (int n = 0; n < 5; n++) {
                all.add(x.close());
            }
            addAnswers(x, all);
            for (int v = 0; v < 4; v++) {
                all.add(x.input(v, 1));
            }
            addAnswers(x, all);
        }
        return all;
    }

    private static void addAnswers(TokenGraphs x, List<Integer> all) {
        all.add(x.run());
        for (int v = 0; v < 4; v++) {
            all.add(x.value(v, v % 3));
            all.add(x.time(v));
        }
        all.add(x.go());
        all.add(x.steps());
        all.add(x.widest());
        for (int t = 0; t < 8; t++) {
            all.add(x.at(t));
        }
        all.add(x.last());
    }

    private static void dueValues(TokenGraphs x, int... want) {
        for (int v = 0; v < 4; v++) {
            due("value(" + v + ", 0)", x.value(v, 0), want[v]);
        }
    }

    // The times of the four variables and of the go.
    private static void dueTimes(TokenGraphs x, int... want) {
        for (int v = 0; v < 4; v++) {
            due("time(" + v + ")", x.time(v), want[v]);
        }
        due("go()", x.go(), want[4]);
    }

    // Programs, and ends and middles of programs.

    private static final Program NOTHING = x -> { };
    private static final Program WHEN = x -> x.when(1);
    private static final Program OTHERWISE = x -> x.otherwise();
    private static final Program REPEAT = x -> x.repeat(1);
    private static final Program CLOSE = x -> x.close();
    private static final Program ENDLESS = x -> {
        x.repeat(3);
        x.close();
    };

    private static Program then(Program... parts) {
        return x -> {
            for (Program part : parts) {
                part.writeOn(x);
            }
        };
    }

    // Lines that count variable 0 up, one after the other.
    private static Program additions(int lines) {
        return x -> {
            for (int n = 0; n < lines; n++) {
                x.operation(0, 0, 0, 3);
            }
        };
    }

    private static Program opened(int whens, int repeats) {
        return x -> {
            for (int n = 0; n < whens; n++) {
                x.when(1);
            }
            for (int n = 0; n < repeats; n++) {
                x.repeat(1);
            }
        };
    }

    // A loop that makes 11 steps in each round and 15 more.
    private static Program rounds(int count) {
        return x -> {
            x.input(0, count);
            x.repeat(0);
            x.operation(0, 1, 0, 3);
            x.close();
        };
    }

    private static Program constants(int lines) {
        return x -> {
            for (int n = 0; n < lines; n++) {
                x.constant(2, n);
            }
        };
    }

    private static List<Named<Program>> openPrograms() {
        return List.of(
            new Named<>("a when", WHEN),
            new Named<>("a when with its otherwise", then(WHEN, OTHERWISE)),
            new Named<>("a repeat", REPEAT),
            new Named<>("an outer when", then(WHEN, REPEAT, CLOSE)),
            new Named<>("an outer repeat", then(REPEAT, WHEN, OTHERWISE, CLOSE)),
            new Named<>("four open", opened(2, 2)),
            new Named<>("an endless repeat", x -> x.repeat(3)),
            new Named<>("a when behind an endless repeat", then(ENDLESS, WHEN)),
            new Named<>("a when around an endless repeat", then(WHEN, ENDLESS)),
            new Named<>("20 lines", then(additions(19), WHEN)));
    }

    private static List<Named<Program>> tiredPrograms() {
        return List.of(
            new Named<>("an endless repeat", ENDLESS),
            new Named<>("an endless repeat behind lines", then(additions(18), ENDLESS)),
            new Named<>("an endless repeat in a when", x -> {
                x.when(3);
                x.repeat(3);
                x.close();
                x.close();
            }),
            new Named<>("401 steps", then(rounds(35), constants(1))));
    }

    private static List<Named<Program>> donePrograms() {
        return List.of(
            new Named<>("no line", NOTHING),
            new Named<>("20 lines", additions(20)),
            new Named<>("a when", then(WHEN, CLOSE)),
            new Named<>("an endless repeat that is passed over", then(WHEN, ENDLESS, CLOSE)),
            new Named<>("400 steps", rounds(35)));
    }

    private static List<Named<Program>> allPrograms() {
        List<Named<Program>> all = new ArrayList<>(openPrograms());
        all.addAll(tiredPrograms());
        all.addAll(donePrograms());
        all.add(new Named<>("20 lines and four open", then(opened(2, 2), additions(16))));
        return all;
    }

    // The head of the document and its terms.

    private static void usedFor512Calls() {
        begin("What it is", "An object is used for at most 512 calls after it has been made");
        List<Named<Call>> lastOnes = List.of(
            new Named<>("run()", x -> x.run()), new Named<>("value(0, 2)", x -> x.value(0, 2)),
            new Named<>("time(0)", x -> x.time(0)), new Named<>("go()", x -> x.go()),
            new Named<>("steps()", x -> x.steps()), new Named<>("widest()", x -> x.widest()),
            new Named<>("at(20)", x -> x.at(20)), new Named<>("last()", x -> x.last()),
            new Named<>("input(3, 2)", x -> x.input(3, 2)),
            new Named<>("constant(0, 2)", x -> x.constant(0, 2)),
            new Named<>("undo()", x -> x.undo()), new Named<>("close()", x -> x.close()));
        int[] want = {DONE, 20, 20, 0, 20, 1, 1, 20, 1, FULL, 19, NONE};
        for (int i = 0; i < want.length; i++) {
            TokenGraphs x = new TokenGraphs();
            due("input(3, 1)", x.input(3, 1), 0);
            int calls = 1;
            // Turns of 21 calls that leave the object as it was.
            for (int turn = 0; turn < 23; turn++) {
                for (int n = 1; n <= 20; n++) {
                    due("operation(0, 0, 0, 3)", x.operation(0, 0, 0, 3), n);
                }
                x.clear();
                calls += 21;
            }
            for (int n = 1; n <= 20; n++) {
                due("operation(0, 0, 0, 3)", x.operation(0, 0, 0, 3), n);
                calls++;
            }
            while (calls < 511) {
                due("steps()", x.steps(), 20);
                calls++;
            }
            due("call 512, " + lastOnes.get(i).name(), lastOnes.get(i).it().on(x), want[i]);
        }
    }

    private static void dueResult(int kind, int a, int b, int want) {
        TokenGraphs x = new TokenGraphs();
        x.input(0, a);
        x.input(1, b);
        x.operation(2, kind, 0, 1);
        for (int order = 0; order < 3; order++) {
            due("kind " + kind + " of " + a + " and " + b, x.value(2, order), want);
        }
    }

    private static void wrapping() {
        begin("Terms", "0: a + b, 1: a - b, 2: a * b (wrapping)");
        dueResult(0, MAX - 1, 1, MAX);
        dueResult(0, MAX, 1, MIN);
        dueResult(0, MIN + 1, -1, MIN);
        dueResult(0, MIN, -1, MAX);
        dueResult(0, MAX, MAX, -2);
        dueResult(0, MIN, MIN, 0);
        dueResult(1, MIN + 1, 1, MIN);
        dueResult(1, MIN, 1, MAX);
        dueResult(1, MAX - 1, -1, MAX);
        dueResult(1, MAX, -1, MIN);
        dueResult(1, -1, MIN, MAX);
        dueResult(1, 0, MIN, MIN);
        dueResult(1, MIN, MAX, 1);
        dueResult(1, MAX, MIN, -1);
        dueResult(2, 46340, 46340, 2147395600);
        dueResult(2, 46341, 46341, -2147479015);
        dueResult(2, 65536, 32767, 2147418112);
        dueResult(2, 65536, 32768, MIN);
        dueResult(2, 65536, -32768, MIN);
        dueResult(2, 65536, -32769, 2147418112);
        dueResult(2, MAX, -1, MIN + 1);
        dueResult(2, MIN, -1, MIN);
        dueResult(2, MIN, 2, 0);
        dueResult(2, MAX, MAX, 1);
        dueResult(2, 65535, 65537, -1);
        // The products of 1 to 12, and of 1 to 13.
        dueProduct(12, 479001600);
        dueProduct(13, 1932053504);
    }

    private static void dueProduct(int most, int want) {
        TokenGraphs x = new TokenGraphs();
        x.input(0, most);
        x.input(1, 1);
        x.input(3, 1);
        x.repeat(0);
        x.operation(1, 2, 1, 0);
        x.operation(0, 1, 0, 3);
        x.close();
        due("the product of 1 to " + most, x.value(1, 0), want);
    }

    private static void less() {
        begin("Terms", "3: 1 if a < b, else 0");
        for (int a : new int[] {MIN + 1, -1, 0, 1, 7, MAX - 1}) {
            dueResult(3, a, a + 1, 1);
            dueResult(3, a, a, 0);
            dueResult(3, a, a - 1, 0);
        }
        // A difference of the two would wrap here.
        dueResult(3, MIN, MAX, 1);
        dueResult(3, MAX, MIN, 0);
        dueResult(3, MIN, 1, 1);
        dueResult(3, 1, MIN, 0);
        dueResult(3, MIN, MIN, 0);
        dueResult(3, MAX, MAX, 0);
    }

    private static void equal() {
        begin("Terms", "4: 1 if a = b, else 0");
        for (int a : new int[] {MIN + 1, -1, 0, 1, 7, MAX - 1}) {
            dueResult(4, a, a + 1, 0);
            dueResult(4, a, a, 1);
            dueResult(4, a, a - 1, 0);
        }
        dueResult(4, MIN, MAX, 0);
        dueResult(4, MIN, MIN, 1);
        dueResult(4, MAX, MAX, 1);
        dueResult(4, MIN, 0, 0);
        dueResult(4, 65536, 0, 0);
    }

    private static void whenNotZero() {
        begin("Terms", "if c's value is not 0 the first, else the second one is carried out.");
        for (int c : new int[] {0, 1, -1, 2, 256, 65536, MIN, MAX}) {
            TokenGraphs x = new TokenGraphs();
            x.input(2, c);
            x.when(2);
            x.constant(0, 10);
            x.otherwise();
            x.constant(0, 20);
            x.constant(1, 30);
            x.close();
            x.constant(3, 40);
            dueValues(x, c == 0 ? 20 : 10, c == 0 ? 30 : 0, c, 40);
            due("steps() with " + c, x.steps(), c == 0 ? 13 : 12);
        }
    }

    private static void repeatNotZero() {
        begin("Terms", "as long as c's value is not 0 this is carried out, again and again.");
        for (int c : new int[] {0, 1, -1, 2, 256, 65536, MIN, MAX}) {
            TokenGraphs x = new TokenGraphs();
            x.input(2, c);
            x.repeat(2);
            x.operation(0, 0, 0, 3);
            x.constant(2, 0);
            x.close();
            x.input(3, 1);
            due("value(0, 0) with " + c, x.value(0, 0), c == 0 ? 0 : 1);
            due("steps() with " + c, x.steps(), c == 0 ? 15 : 27);
        }
        for (int count = 0; count <= 4; count++) {
            TokenGraphs down = made(rounds(count));
            due("steps() of " + count + " rounds", down.steps(), 15 + 11 * count);
            due("value(0, 0) of " + count + " rounds", down.value(0, 0), 0);
            // From below it goes on as well.
            down.input(0, -count);
            down.input(3, -1);
            due("steps() of " + count + " rounds upwards", down.steps(), 15 + 11 * count);
        }
    }

    private static void atTheBegin() {
        begin("Terms", "at the begin all are at time 0.");
        TokenGraphs x = made(NOTHING);
        dueTimes(x, 0, 0, 0, 0, 0);
        due("at(0)", x.at(0), 0);
        x.operation(0, 0, 1, 2);
        dueTimes(x, 1, 0, 0, 0, 0);
        x.constant(1, 4);
        dueTimes(x, 1, 1, 0, 0, 0);
        due("at(0)", x.at(0), 0);
        due("at(1)", x.at(1), 2);
    }

    // Variables 0 to 2 made late by as many additions each; variable 3 is not.
    private static TokenGraphs late(int first, int second, int third) {
        TokenGraphs x = made(NOTHING);
        int[] counts = {first, second, third};
        for (int v = 0; v < 3; v++) {
            for (int n = 0; n < counts[v]; n++) {
                x.operation(v, 0, v, 3);
            }
        }
        return x;
    }

    private static void greatestOfTheTimes() {
        begin("Terms", "1 after the greatest of the times of what it needs.");
        for (int a = 0; a <= 3; a++) {
            for (int b = 0; b <= 3; b++) {
                TokenGraphs x = late(a, b, 0);
                x.operation(2, 0, 0, 1);
                dueTimes(x, a, b, Math.max(a, b) + 1, 0, 0);
            }
        }
        // What it needs may be its own target; its target alone is not needed.
        TokenGraphs x = late(2, 4, 1);
        x.operation(0, 1, 0, 2);
        x.operation(1, 1, 2, 2);
        x.constant(2, 1);
        dueTimes(x, 3, 2, 1, 0, 0);
    }

    private static void asTheyWereBefore() {
        begin("Terms", "that needs it and c (both as they were before)");
        for (int c = 0; c < 4; c++) {
            TokenGraphs x = late(1, 3, 2);
            x.when(c);
            x.close();
            int[] before = {1, 3, 2, 0, 0};
            int[] want = new int[5];
            for (int i = 0; i < 5; i++) {
                want[i] = Math.max(before[i], before[c]) + 2;
            }
            dueTimes(x, want);
            x.undo();
            x.undo();
            // A repeat whose c is 0: joining, choosing, leaving.
            x.operation(c, 1, c, c);
            x.repeat(c);
            x.close();
            before[c]++;
            for (int i = 0; i < 5; i++) {
                want[i] = Math.max(before[i], before[c]) + 3;
            }
            dueTimes(x, want);
        }
    }

    private static void dueEnd(String last, Program program, int all) {
        TokenGraphs x = made(program);
        String with = " with " + all + " steps, the last ones " + last;
        boolean tired = all > 400;
        due("run()" + with, x.run(), tired ? TIRED : DONE);
        due("steps()" + with, x.steps(), tired ? NONE : all);
        due("value(0, 0)" + with, x.value(0, 0), tired ? NONE : 0);
        due("at(0)" + with, x.at(0), tired ? NONE : 0);
    }

    private static void moreThan400Steps() {
        begin("Terms", "If it would have more than 400 steps it is TIRED.");
        List<Named<Program>> ends = List.of(
            new Named<>("a constant's", x -> x.constant(1, 2)),
            new Named<>("an operation's", x -> x.operation(1, 2, 3, 3)),
            new Named<>("an empty when's", then(WHEN, CLOSE)),
            new Named<>("a when's with an operation", x -> {
                x.when(3);
                x.operation(1, 0, 1, 3);
                x.otherwise();
                x.close();
            }),
            new Named<>("a repeat's without a round", then(REPEAT, CLOSE)),
            new Named<>("a repeat's with a round", x -> {
                x.repeat(3);
                x.constant(3, 0);
                x.close();
            }),
            new Named<>("those of a repeat in a when", x -> {
                x.when(3);
                x.repeat(1);
                x.close();
                x.close();
            }));
        int[] steps = {1, 1, 10, 11, 15, 26, 25};
        for (int i = 0; i < steps.length; i++) {
            for (int all = 390; all <= 415; all++) {
                int before = all - steps[i] - 15;
                Program program = then(rounds(before / 11), constants(before % 11), ends.get(i).it());
                dueEnd(ends.get(i).name(), program, all);
            }
        }
        dueEnd("a loop's", rounds(35), 400);
        dueEnd("a loop's", rounds(36), 411);
        endless();
    }

    private static void endless() {
        TokenGraphs x = made(ENDLESS);
        due("run() of an endless repeat", x.run(), TIRED);
        x.input(3, 0);
        due("run() of it, passed over", x.run(), DONE);
        due("steps() of it, passed over", x.steps(), 15);
        // Steps of a program that is not carried out are none of the run's.
        TokenGraphs y = made(then(WHEN, ENDLESS, CLOSE));
        due("run() with an endless repeat in a when", y.run(), DONE);
        due("steps() with an endless repeat in a when", y.steps(), 10);
        y.input(1, 1);
        due("run() with an endless repeat in a when", y.run(), TIRED);
        // Endless, with none but otherwise lines and borders in it.
        TokenGraphs z = made(w -> {
            w.repeat(3);
            w.repeat(1);
            w.when(3);
            w.otherwise();
            w.close();
            w.close();
            w.close();
        });
        due("run() of repeats in each other", z.run(), TIRED);
    }

    private static List<Named<Call>> allCalls() {
        List<Named<Call>> all = new ArrayList<>();
        for (int p : ANY) {
            all.add(new Named<>("when(" + p + ")", x -> x.when(p)));
            all.add(new Named<>("repeat(" + p + ")", x -> x.repeat(p)));
            all.add(new Named<>("time(" + p + ")", x -> x.time(p)));
            all.add(new Named<>("at(" + p + ")", x -> x.at(p)));
            for (int q : ANY) {
                all.add(new Named<>("input(" + p + ", " + q + ")", x -> x.input(p, q)));
                all.add(new Named<>("constant(" + p + ", " + q + ")", x -> x.constant(p, q)));
                all.add(new Named<>("value(" + p + ", " + q + ")", x -> x.value(p, q)));
                all.add(new Named<>("operation(0, " + p + ", " + q + ", 3)", x -> x.operation(0, p, q, 3)));
                all.add(new Named<>("operation(" + p + ", 2, 1, " + q + ")", x -> x.operation(p, 2, 1, q)));
            }
        }
        all.add(new Named<>("otherwise()", x -> x.otherwise()));
        all.add(new Named<>("close()", x -> x.close()));
        all.add(new Named<>("undo()", x -> x.undo()));
        all.add(new Named<>("run()", x -> x.run()));
        all.add(new Named<>("go()", x -> x.go()));
        all.add(new Named<>("steps()", x -> x.steps()));
        all.add(new Named<>("widest()", x -> x.widest()));
        all.add(new Named<>("last()", x -> x.last()));
        return all;
    }

    private static void neverThrows() {
        begin("Terms", "No call ever throws.");
        for (Named<Program> program : allPrograms()) {
            for (Named<Call> call : allCalls()) {
                try {
                    TokenGraphs x = made(program.it());
                    call.it().on(x);
                    x.run();
                    call.it().on(x);
                    x.clear();
                    call.it().on(x);
                } catch (Throwable thrown) {
                    wrong++;
                    System.out.println(sentence + call.name() + " with "
                        + program.name() + " threw " + thrown);
                }
            }
        }
    }

    private static boolean isCode(int answer) {
        return answer == BAD_ARG || answer == FULL || answer == NONE;
    }

    private static void refusedChangesNothing() {
        begin("Terms", "A refused call answers the code named and changes nothing.");
        for (Named<Program> program : allPrograms()) {
            List<Call> all = refusedCalls(program.it());
            if (all.size() < 500) {
                wrong++;
                System.out.println("only " + all.size() + " calls are refused with " + program.name());
            }
            List<Integer> before = portrait(program.it());
            // An object is good for 512 calls: 200 of them for the refused ones.
            for (int from = 0; from < all.size(); from += 200) {
                List<Call> some = all.subList(from, Math.min(from + 200, all.size()));
                List<Integer> after = portrait(then(program.it(), x -> some.forEach(call -> call.on(x))));
                dueSame("refused calls from " + from + " on with " + program.name(), after, before);
            }
        }
    }

    private static List<Call> refusedCalls(Program program) {
        List<Call> all = new ArrayList<>();
        for (Named<Call> call : allCalls()) {
            // What an input was may look like a code, so those are chosen below.
            if (!call.name().startsWith("input(") && isCode(call.it().on(made(program)))) {
                all.add(call.it());
            }
        }
        for (int v : NO_VARIABLE) {
            all.add(x -> x.input(v, 9));
        }
        return all;
    }

    // Promises 1 to 10: writing the program.

    private static void newObject() {
        begin("Promise 1", "No statement; all variables are 0 at the begin.");
        TokenGraphs x = new TokenGraphs();
        dueValues(x, 0, 0, 0, 0);
        dueTimes(x, 0, 0, 0, 0, 0);
        due("run()", x.run(), DONE);
        due("steps()", x.steps(), 0);
        due("undo()", x.undo(), NONE);
        due("constant(0, 1)", x.constant(0, 1), 1);
        due("undo()", x.undo(), 0);
        for (int v = 0; v < 4; v++) {
            due("input(" + v + ", 3)", x.input(v, 3), 0);
        }
        // Nothing of it is another object's.
        TokenGraphs other = new TokenGraphs();
        dueValues(other, 0, 0, 0, 0);
        x.when(0);
        due("run()", other.run(), DONE);
        due("undo()", other.undo(), NONE);
    }

    private static void inputVariable() {
        begin("Promise 2", "BAD_ARG if v is not 0 to 3.");
        for (int v = 0; v < 4; v++) {
            TokenGraphs x = new TokenGraphs();
            due("input(" + v + ", 9)", x.input(v, 9), 0);
            for (int other = 0; other < 4; other++) {
                due("value(" + other + ", 0)", x.value(other, 0), other == v ? 9 : 0);
            }
        }
        for (int v : NO_VARIABLE) {
            refused("input(" + v + ", 9)", NOTHING, x -> x.input(v, 9), BAD_ARG);
            refused("input(" + v + ", 9)", additions(20), x -> x.input(v, 9), BAD_ARG);
        }
    }

    private static void inputWhatItWas() {
        begin("Promise 2", "Otherwise what it was.");
        TokenGraphs x = new TokenGraphs();
        int before = 0;
        for (int next : new int[] {MAX, MIN, -1, 1, 0, BAD_ARG, FULL, NONE, 7, 7}) {
            due("input(3, " + next + ")", x.input(3, next), before);
            due("input(4, " + next + ")", x.input(4, next), BAD_ARG);
            due("value(3, 0)", x.value(3, 0), next);
            before = next;
        }
        // What a run makes of it is not what it was at the begin.
        x.operation(3, 0, 3, 3);
        due("value(3, 0)", x.value(3, 0), 14);
        due("input(3, 8)", x.input(3, 8), 7);
        due("value(3, 0)", x.value(3, 0), 16);
        // Neither its lines' going nor a full list has to do with it.
        x.undo();
        x.clear();
        due("input(3, 1)", x.input(3, 1), 8);
        additions(20).writeOn(x);
        due("input(3, 2)", x.input(3, 2), 1);
        due("value(0, 0)", x.value(0, 0), 40);
    }

    private static void constantOrder() {
        begin("Promise 3", "Tested in this order: v not 0 to 3 answers BAD_ARG; there are 20 lines "
            + "(each statement is one line, otherwise and close are one, too), FULL.");
        for (int v : NO_VARIABLE) {
            for (int lines : new int[] {0, 19, 20}) {
                refused("constant(" + v + ", 1) with " + lines + " lines", additions(lines),
                    x -> x.constant(v, 1), BAD_ARG);
            }
        }
        for (int v = 0; v < 4; v++) {
            int good = v;
            appended("constant(" + v + ", 1)", NOTHING, x -> x.constant(good, 1), 1);
            appended("constant(" + v + ", 1)", additions(19), x -> x.constant(good, 1), 20);
            refused("constant(" + v + ", 1)", additions(20), x -> x.constant(good, 1), FULL);
        }
        for (int k : new int[] {MIN, BAD_ARG, NONE, -1, 0, MAX}) {
            appended("constant(0, " + k + ")", additions(19), x -> x.constant(0, k), 20);
            TokenGraphs x = made(y -> y.constant(0, k));
            due("value(0, 0) of the constant " + k, x.value(0, 0), k);
        }
    }

    private static void constantLines() {
        begin("Promise 3", "Otherwise the number of lines.");
        TokenGraphs x = made(NOTHING);
        // Each kind of line counts as one.
        due("constant(0, 1)", x.constant(0, 1), 1);
        x.operation(0, 0, 0, 0);
        due("constant(0, 1)", x.constant(0, 1), 3);
        x.when(0);
        due("constant(0, 1)", x.constant(0, 1), 5);
        x.otherwise();
        due("constant(0, 1)", x.constant(0, 1), 7);
        x.close();
        due("constant(0, 1)", x.constant(0, 1), 9);
        x.repeat(1);
        due("constant(0, 1)", x.constant(0, 1), 11);
        x.close();
        due("constant(0, 1)", x.constant(0, 1), 13);
        x.constant(9, 9);
        x.close();
        x.undo();
        due("constant(0, 1)", x.constant(0, 1), 13);
        for (int n = 14; n <= 20; n++) {
            due("constant(0, 1)", x.constant(0, 1), n);
        }
        due("constant(0, 1)", x.constant(0, 1), FULL);
    }

    private static void operationOrder() {
        begin("Promise 4", "Tested in this order: v, a or b not 0 to 3, or kind not 0 to 4, answers BAD_ARG; "
            + "20 lines, FULL.");
        for (int lines : new int[] {0, 19, 20}) {
            String with = ") with " + lines + " lines";
            for (int bad : NO_VARIABLE) {
                refused("operation(" + bad + ", 0, 0, 0" + with, additions(lines),
                    x -> x.operation(bad, 0, 0, 0), BAD_ARG);
                refused("operation(0, 0, " + bad + ", 0" + with, additions(lines),
                    x -> x.operation(0, 0, bad, 0), BAD_ARG);
                refused("operation(0, 0, 0, " + bad + with, additions(lines),
                    x -> x.operation(0, 0, 0, bad), BAD_ARG);
            }
            for (int bad : NO_KIND) {
                refused("operation(0, " + bad + ", 0, 0" + with, additions(lines),
                    x -> x.operation(0, bad, 0, 0), BAD_ARG);
                refused("operation(3, " + bad + ", 3, 3" + with, additions(lines),
                    x -> x.operation(3, bad, 3, 3), BAD_ARG);
            }
        }
        for (int kind = 0; kind <= 4; kind++) {
            int good = kind;
            for (int v : new int[] {0, 3}) {
                String what = "operation(" + v + ", " + kind + ", " + v + ", " + v + ")";
                appended(what, NOTHING, x -> x.operation(v, good, v, v), 1);
                appended(what, additions(19), x -> x.operation(v, good, v, v), 20);
                refused(what, additions(20), x -> x.operation(v, good, v, v), FULL);
            }
        }
    }

    private static void operationLines() {
        begin("Promise 4", "Otherwise the number of lines.");
        TokenGraphs x = made(then(WHEN, OTHERWISE));
        for (int n = 3; n <= 20; n++) {
            due("operation(3, 4, 0, 3)", x.operation(3, 4, 0, 3), n);
        }
        due("operation(3, 4, 0, 3)", x.operation(3, 4, 0, 3), FULL);
        due("undo()", x.undo(), 19);
        due("operation(0, 0, 3, 3)", x.operation(0, 0, 3, 3), 20);
    }

    private static void dueOpening(String word, boolean isWhen) {
        for (int c : NO_VARIABLE) {
            Call call = isWhen ? x -> x.when(c) : x -> x.repeat(c);
            String what = word + "(" + c + ")";
            refused(what + " with no line", NOTHING, call, BAD_ARG);
            refused(what + " with 20 lines", additions(20), call, BAD_ARG);
            refused(what + " with 4 open", opened(2, 2), call, BAD_ARG);
            refused(what + " with both", then(opened(2, 2), additions(16)), call, BAD_ARG);
        }
        for (int c = 0; c < 4; c++) {
            int good = c;
            Call call = isWhen ? x -> x.when(good) : x -> x.repeat(good);
            String what = word + "(" + c + ")";
            appended(what + " with no line", NOTHING, call, 1);
            appended(what + " with 19 lines", additions(19), call, 20);
            refused(what + " with 20 lines", additions(20), call, FULL);
            refused(what + " with 20 lines and 3 open", then(opened(2, 1), additions(17)), call, FULL);
            appended(what + " with 19 lines and 3 open", then(opened(1, 2), additions(16)), call, 20);
            refused(what + " with 19 lines and 4 open", then(opened(2, 2), additions(15)), call, FULL);
            refused(what + " with both", then(opened(2, 2), additions(16)), call, FULL);
            for (int whens = 0; whens <= 4; whens++) {
                refused(what + " with 4 open", opened(whens, 4 - whens), call, FULL);
            }
            for (int whens = 0; whens <= 3; whens++) {
                appended(what + " with 3 open", opened(whens, 3 - whens), call, 4);
            }
            // An otherwise opens none; a close makes room for another one.
            appended(what, then(opened(2, 0), OTHERWISE, WHEN, OTHERWISE), call, 6);
            refused(what, then(opened(3, 0), OTHERWISE, WHEN, OTHERWISE), call, FULL);
            appended(what, then(opened(2, 2), CLOSE), call, 6);
            appended(what, then(opened(0, 4), CLOSE, CLOSE, WHEN), call, 8);
            refused(what, then(opened(0, 4), CLOSE, CLOSE, WHEN, REPEAT), call, FULL);
            // Closed ones do not count, however many they are.
            Program pair = then(WHEN, CLOSE, REPEAT, CLOSE);
            appended(what, then(pair, pair, pair), call, 13);
        }
    }

    private static void whenOrder() {
        begin("Promise 5", "Tested in this order: c not 0 to 3 answers BAD_ARG; "
            + "20 lines, or 4 open ones, FULL.");
        dueOpening("when", true);
    }

    private static void whenLines() {
        begin("Promise 5", "Otherwise the number of lines.");
        TokenGraphs x = made(NOTHING);
        for (int n = 1; n <= 19; n += 2) {
            due("when(2)", x.when(2), n);
            x.close();
        }
        due("when(2)", x.when(2), FULL);
        x.undo();
        x.undo();
        due("when(2)", x.when(2), 19);
    }

    private static void otherwiseNone() {
        begin("Promise 6", "NONE if the innermost open one is no when, or this was said, or none is open; "
            + "then FULL, if there are 20 lines.");
        List<Named<Program>> none = List.of(
            new Named<>("a repeat", REPEAT),
            new Named<>("a repeat in a when", then(WHEN, REPEAT)),
            new Named<>("a repeat around a closed when", then(REPEAT, WHEN, CLOSE)),
            new Named<>("one said", then(WHEN, OTHERWISE)),
            new Named<>("one said, with lines behind it", then(WHEN, OTHERWISE, additions(2))),
            new Named<>("one said, with a closed when behind it", then(WHEN, OTHERWISE, WHEN, CLOSE)),
            new Named<>("one said in a when", then(WHEN, WHEN, OTHERWISE)),
            new Named<>("none open", NOTHING),
            new Named<>("a closed when", then(WHEN, CLOSE)));
        List<Named<Program>> good = List.of(
            new Named<>("a when", WHEN),
            new Named<>("a when in a repeat", then(REPEAT, WHEN)),
            new Named<>("a when around a closed repeat", then(WHEN, REPEAT, CLOSE)),
            new Named<>("a when around one said", then(WHEN, WHEN, OTHERWISE, CLOSE)),
            new Named<>("a when behind one said", then(WHEN, OTHERWISE, WHEN)),
            new Named<>("a when, the fourth open one", opened(4, 0)));
        for (Named<Program> program : none) {
            refused("otherwise(), " + program.name(), program.it(), x -> x.otherwise(), NONE);
            for (int lines = 18; lines <= 20; lines++) {
                refused("otherwise(), " + program.name() + ", " + lines + " lines",
                    filledUp(program.it(), lines), x -> x.otherwise(), NONE);
            }
        }
        for (Named<Program> program : good) {
            for (int lines = 18; lines <= 19; lines++) {
                appended("otherwise(), " + program.name() + ", " + lines + " lines",
                    filledUp(program.it(), lines), x -> x.otherwise(), lines + 1);
            }
            refused("otherwise(), " + program.name() + ", 20 lines",
                filledUp(program.it(), 20), x -> x.otherwise(), FULL);
        }
        // One that was said and undone was not said.
        Program undone = then(WHEN, OTHERWISE, x -> x.undo());
        appended("otherwise(), one undone", undone, x -> x.otherwise(), 2);
        appended("otherwise(), one undone", then(undone, additions(18)), x -> x.otherwise(), 20);
        refused("otherwise(), one undone", then(undone, additions(19)), x -> x.otherwise(), FULL);
    }

    // The program with additions before it, so that it ends with its own lines.
    private static Program filledUp(Program program, int lines) {
        TokenGraphs x = made(program);
        int own = 0;
        while (x.undo() != NONE) {
            own++;
        }
        return then(additions(lines - own), program);
    }

    private static void otherwiseLines() {
        begin("Promise 6", "Otherwise the number of lines.");
        TokenGraphs x = made(NOTHING);
        x.when(0);
        due("otherwise()", x.otherwise(), 2);
        due("otherwise()", x.otherwise(), NONE);
        x.when(0);
        due("otherwise()", x.otherwise(), 4);
        for (int n = 5; n <= 18; n++) {
            due("constant(0, 1)", x.constant(0, 1), n);
        }
        x.when(0);
        due("otherwise()", x.otherwise(), 20);
        due("otherwise()", x.otherwise(), NONE);
    }

    private static void otherwiseEmpty() {
        begin("Promise 6", "(Without it the second program is empty.)");
        for (int c = 0; c <= 1; c++) {
            TokenGraphs x = made(NOTHING);
            x.input(1, c);
            x.when(1);
            x.constant(2, 50);
            x.close();
            due("value(2, 0)", x.value(2, 0), c == 0 ? -7 : 50);
            due("steps()", x.steps(), c == 0 ? 10 : 11);
            dueTimes(x, 2, 2, c == 0 ? 2 : 3, 2, 2);
            // With an empty one it is the same.
            x.undo();
            x.otherwise();
            x.close();
            due("value(2, 0)", x.value(2, 0), c == 0 ? -7 : 50);
            due("steps()", x.steps(), c == 0 ? 10 : 11);
            dueTimes(x, 2, 2, c == 0 ? 2 : 3, 2, 2);
            // With one that is not empty it is not.
            x.undo();
            x.constant(2, 60);
            x.close();
            due("value(2, 0)", x.value(2, 0), c == 0 ? 60 : 50);
            due("steps()", x.steps(), 11);
            dueTimes(x, 2, 2, 3, 2, 2);
        }
    }

    private static void repeatOrder() {
        begin("Promise 7", "Tested in the same way as when.");
        dueOpening("repeat", false);
    }

    private static void repeatLines() {
        begin("Promise 7", "Otherwise the number of lines.");
        TokenGraphs x = made(NOTHING);
        for (int n = 1; n <= 19; n += 2) {
            due("repeat(1)", x.repeat(1), n);
            x.close();
        }
        due("repeat(1)", x.repeat(1), FULL);
        due("steps()", x.steps(), 150);
        x.undo();
        x.undo();
        due("repeat(1)", x.repeat(1), 19);
    }

    private static void closeOrder() {
        begin("Promise 8", "Tested in this order: NONE if none is open; 20 lines, FULL.");
        List<Named<Program>> none = List.of(
            new Named<>("no block", NOTHING),
            new Named<>("a closed when", then(WHEN, CLOSE)),
            new Named<>("a closed when with its otherwise", then(WHEN, OTHERWISE, CLOSE)),
            new Named<>("a closed repeat", then(REPEAT, CLOSE)),
            new Named<>("four closed ones", then(opened(2, 2), CLOSE, CLOSE, CLOSE, CLOSE)),
            new Named<>("a when undone", then(WHEN, x -> x.undo())));
        for (Named<Program> program : none) {
            refused("close(), " + program.name(), program.it(), x -> x.close(), NONE);
            for (int lines = 18; lines <= 20; lines++) {
                refused("close(), " + program.name() + ", " + lines + " lines",
                    filledUp(program.it(), lines), x -> x.close(), NONE);
            }
        }
        List<Named<Program>> open = List.of(
            new Named<>("a when", WHEN),
            new Named<>("a when with its otherwise", then(WHEN, OTHERWISE)),
            new Named<>("a repeat", REPEAT),
            new Named<>("four open", opened(2, 2)),
            new Named<>("one of two", then(opened(1, 1), CLOSE)));
        for (Named<Program> program : open) {
            for (int lines = 18; lines <= 19; lines++) {
                appended("close(), " + program.name() + ", " + lines + " lines",
                    filledUp(program.it(), lines), x -> x.close(), lines + 1);
            }
            refused("close(), " + program.name() + ", 20 lines",
                filledUp(program.it(), 20), x -> x.close(), FULL);
        }
        // Behind a close that was undone it is open again.
        Program undone = then(REPEAT, CLOSE, x -> x.undo());
        appended("close(), one undone", undone, x -> x.close(), 2);
        appended("close(), one undone", then(undone, additions(18)), x -> x.close(), 20);
        refused("close(), one undone", then(undone, additions(19)), x -> x.close(), FULL);
    }

    private static void closeLines() {
        begin("Promise 8", "Otherwise the number of lines.");
        TokenGraphs x = made(opened(2, 2));
        for (int n = 5; n <= 8; n++) {
            due("run()", x.run(), OPEN);
            due("close()", x.close(), n);
        }
        due("run()", x.run(), DONE);
        due("close()", x.close(), NONE);
        additions(11).writeOn(x);
        x.repeat(1);
        due("close()", x.close(), FULL);
        x.undo();
        x.undo();
        x.repeat(1);
        due("close()", x.close(), 20);
        due("close()", x.close(), NONE);
    }

    private static void undoNone() {
        begin("Promise 9", "Takes the last line away. NONE if there is none.");
        refused("undo()", NOTHING, x -> x.undo(), NONE);
        refused("undo()", x -> x.clear(), x -> x.undo(), NONE);
        refused("undo()", then(additions(20), x -> x.clear()), x -> x.undo(), NONE);
        refused("undo()", then(WHEN, x -> x.undo()), x -> x.undo(), NONE);
        refused("undo()", x -> x.constant(4, 1), x -> x.undo(), NONE);
        TokenGraphs x = made(NOTHING);
        for (int turn = 0; turn < 3; turn++) {
            due("undo()", x.undo(), NONE);
            due("operation(0, 0, 0, 3)", x.operation(0, 0, 0, 3), 1);
            due("value(0, 0)", x.value(0, 0), 6);
            due("undo()", x.undo(), 0);
            due("value(0, 0)", x.value(0, 0), 5);
        }
    }

    private static void undoLines() {
        begin("Promise 9", "Otherwise the number of lines.");
        TokenGraphs x = made(additions(20));
        due("constant(0, 1)", x.constant(0, 1), FULL);
        for (int n = 19; n >= 0; n--) {
            due("undo()", x.undo(), n);
            due("value(0, 0)", x.value(0, 0), 5 + n);
            due("steps()", x.steps(), n);
        }
        due("undo()", x.undo(), NONE);
        // Each kind of line is one, and what was open before is open again.
        x = made(then(additions(1), constants(1), WHEN, OTHERWISE, CLOSE, REPEAT, CLOSE));
        int[] ends = {OPEN, DONE, OPEN, OPEN, DONE, DONE, DONE};
        for (int n = 6; n >= 0; n--) {
            due("undo()", x.undo(), n);
            due("run() with " + n + " lines", x.run(), ends[6 - n]);
        }
        due("undo()", x.undo(), NONE);
    }

    private static void clearLines() {
        begin("Promise 10", "No line from now on.");
        List<Integer> empty = portrait(NOTHING);
        for (Named<Program> program : allPrograms()) {
            // Those with many steps change an input, too, and that stays.
            if (program.name().endsWith("steps")) {
                continue;
            }
            dueSame("clear() with " + program.name(), portrait(then(program.it(), x -> x.clear())), empty);
        }
        dueSame("clear() twice", portrait(then(WHEN, x -> x.clear(), x -> x.clear())), empty);
        // There is room for 20 lines and 4 open ones again.
        TokenGraphs x = made(then(opened(2, 2), additions(16), y -> y.clear(), opened(2, 2)));
        due("when(0)", x.when(0), FULL);
        x.clear();
        due("otherwise()", x.otherwise(), NONE);
        due("close()", x.close(), NONE);
        for (int n = 1; n <= 20; n++) {
            due("constant(0, 1)", x.constant(0, 1), n);
        }
        due("constant(0, 1)", x.constant(0, 1), FULL);
        // What the variables are at the begin is no line.
        x.clear();
        dueValues(x, 5, 0, -7, 1);
    }

    // Promises 11 to 19: questions about the run.

    private static void howRunsEnd() {
        begin("Terms and promise 11",
            "How runs end: at their end; with too many steps; a when or repeat is not closed.");
        for (Named<Program> program : donePrograms()) {
            due("run() with " + program.name(), made(program.it()).run(), DONE);
        }
        for (Named<Program> program : tiredPrograms()) {
            due("run() with " + program.name(), made(program.it()).run(), TIRED);
        }
        for (Named<Program> program : openPrograms()) {
            due("run() with " + program.name(), made(program.it()).run(), OPEN);
        }
        // It is asked anew every time.
        TokenGraphs x = made(ENDLESS);
        for (int n = 0; n < 3; n++) {
            due("run()", x.run(), TIRED);
            x.undo();
            due("run()", x.run(), OPEN);
            x.close();
            x.input(3, 0);
            due("run()", x.run(), DONE);
            x.input(3, n + 1);
        }
    }

    private static List<Named<Program>> notDonePrograms() {
        List<Named<Program>> all = new ArrayList<>(openPrograms());
        all.addAll(tiredPrograms());
        return all;
    }

    private static void valueOrder() {
        begin("Promise 12", "Tested in this order: v not 0 to 3, or order not 0 to 2, answers BAD_ARG; "
            + "the run is not DONE, NONE.");
        for (Named<Program> program : allPrograms()) {
            TokenGraphs x = made(program.it());
            String with = " with " + program.name();
            for (int v : NO_VARIABLE) {
                due("value(" + v + ", 0)" + with, x.value(v, 0), BAD_ARG);
                due("value(" + v + ", 2)" + with, x.value(v, 2), BAD_ARG);
                due("value(" + v + ", 3)" + with, x.value(v, 3), BAD_ARG);
            }
            for (int order : NO_ORDER) {
                due("value(0, " + order + ")" + with, x.value(0, order), BAD_ARG);
                due("value(3, " + order + ")" + with, x.value(3, order), BAD_ARG);
            }
        }
        for (Named<Program> program : notDonePrograms()) {
            TokenGraphs x = made(program.it());
            for (int v = 0; v < 4; v++) {
                for (int order = 0; order < 3; order++) {
                    due("value with " + program.name(), x.value(v, order), NONE);
                }
            }
        }
        int[] first = {5, 25, 5, 5, 0};
        for (int i = 0; i < first.length; i++) {
            TokenGraphs x = made(donePrograms().get(i).it());
            dueValues(x, first[i], 0, -7, 1);
        }
    }

    private static void orderNeverMatters() {
        begin("Promise 12", "(The order never matters.)");
        // Each line may be done early or late, and takes a value's place that
        // the line before it needs.
        TokenGraphs x = made(NOTHING);
        x.operation(0, 0, 0, 3);
        x.operation(1, 2, 0, 2);
        x.constant(0, 100);
        x.operation(2, 1, 0, 1);
        x.constant(1, 3);
        x.repeat(1);
        x.operation(0, 1, 0, 1);
        x.operation(1, 1, 1, 3);
        x.constant(3, 1);
        x.close();
        x.when(2);
        x.operation(2, 0, 2, 0);
        x.constant(0, 8);
        x.close();
        for (int order = 0; order < 3; order++) {
            due("value(0, " + order + ")", x.value(0, order), 8);
            due("value(1, " + order + ")", x.value(1, order), 0);
            due("value(2, " + order + ")", x.value(2, order), 236);
            due("value(3, " + order + ")", x.value(3, order), 1);
        }
    }

    private static void timeOrder() {
        begin("Promise 13", "Tested in this order: v not 0 to 3 answers BAD_ARG; NONE.");
        for (Named<Program> program : allPrograms()) {
            TokenGraphs x = made(program.it());
            for (int v : NO_VARIABLE) {
                due("time(" + v + ") with " + program.name(), x.time(v), BAD_ARG);
            }
        }
        for (Named<Program> program : notDonePrograms()) {
            TokenGraphs x = made(program.it());
            for (int v = 0; v < 4; v++) {
                due("time(" + v + ") with " + program.name(), x.time(v), NONE);
            }
        }
        dueTimes(made(donePrograms().get(0).it()), 0, 0, 0, 0, 0);
        dueTimes(made(donePrograms().get(1).it()), 20, 0, 0, 0, 0);
        dueTimes(made(donePrograms().get(2).it()), 2, 2, 2, 2, 2);
        dueTimes(made(donePrograms().get(3).it()), 2, 2, 2, 2, 2);
        dueTimes(made(donePrograms().get(4).it()), 108, 108, 108, 108, 108);
    }

    // One question of all runs: NONE if they are not done, else as given for
    // each of the programs that are done.
    private static void dueQuestion(String question, Call call, int... want) {
        for (Named<Program> program : notDonePrograms()) {
            due(question + " with " + program.name(), call.on(made(program.it())), NONE);
        }
        List<Named<Program>> done = donePrograms();
        for (int i = 0; i < want.length; i++) {
            due(question + " with " + done.get(i).name(), call.on(made(done.get(i).it())), want[i]);
        }
        // The program may come to its end again, and then it answers again.
        TokenGraphs x = made(ENDLESS);
        due(question, call.on(x), NONE);
        x.undo();
        due(question, call.on(x), NONE);
        x.clear();
        due(question, call.on(x), want[0]);
    }

    private static void goNone() {
        begin("Promise 14", "The time at which the go is there at the end; NONE.");
        dueQuestion("go()", x -> x.go(), 0, 0, 2, 2, 108);
    }

    private static void stepsNone() {
        begin("Promise 15", "The number of steps of the run; NONE.");
        dueQuestion("steps()", x -> x.steps(), 0, 20, 10, 10, 400);
    }

    private static void widestNone() {
        begin("Promise 16", "The greatest number of steps with the same time; NONE.");
        dueQuestion("widest()", x -> x.widest(), 0, 1, 5, 5, 5);
        // 18 constants with four choosing steps are the most; then without them.
        TokenGraphs x = made(then(constants(18), WHEN, CLOSE));
        due("widest()", x.widest(), 22);
        x.undo();
        x.undo();
        due("widest()", x.widest(), 18);
    }

    private static void atNone() {
        begin("Promise 17", "The number of steps at time t; NONE.");
        dueQuestion("at(1)", x -> x.at(1), 0, 1, 5, 5, 5);
        dueQuestion("at(3)", x -> x.at(3), 0, 1, 0, 0, 5);
        dueQuestion("at(20)", x -> x.at(20), 0, 1, 0, 0, 5);
        dueQuestion("at(21)", x -> x.at(21), 0, 0, 0, 0, 5);
        dueQuestion("at(108)", x -> x.at(108), 0, 0, 0, 0, 5);
        for (int t : ANY) {
            dueQuestion("at(" + t + ")", x -> x.at(t), 0, t >= 1 && t <= 20 ? 1 : 0);
        }
    }

    private static void lastNone() {
        begin("Promise 18", "The greatest time of a step; 0 if there is none; NONE.");
        dueQuestion("last()", x -> x.last(), 0, 20, 2, 2, 108);
        TokenGraphs x = made(NOTHING);
        due("last()", x.last(), 0);
        x.constant(0, 1);
        due("last()", x.last(), 1);
        x.undo();
        due("last()", x.last(), 0);
        // A late step counts though nothing that is there at the end is late.
        additions(3).writeOn(x);
        x.constant(0, 1);
        due("last()", x.last(), 3);
        dueTimes(x, 1, 0, 0, 0, 0);
    }

    private static void openWhenever() {
        begin("Promise 19", "run answers OPEN whenever a when or repeat is not closed.");
        for (int whens = 0; whens <= 4; whens++) {
            for (int repeats = 0; whens + repeats <= 4; repeats++) {
                TokenGraphs x = made(opened(whens, repeats));
                for (int open = whens + repeats; open > 0; open--) {
                    due("run() with " + open + " open", x.run(), OPEN);
                    x.close();
                }
                due("run() with none open", x.run(), DONE);
            }
        }
        for (Named<Program> program : openPrograms()) {
            TokenGraphs x = made(program.it());
            due("run() with " + program.name(), x.run(), OPEN);
            // Whatever the variables are.
            for (int all = 0; all <= 1; all++) {
                for (int v = 0; v < 4; v++) {
                    x.input(v, all);
                }
                due("run() with " + program.name() + ", all " + all, x.run(), OPEN);
            }
        }
        // A run with too many steps before the open one is open, not tired.
        TokenGraphs x = made(then(rounds(35), constants(1)));
        due("run()", x.run(), TIRED);
        x.when(1);
        due("run()", x.run(), OPEN);
        x.close();
        due("run()", x.run(), TIRED);
    }

    private static void noneJustIfNotDone() {
        begin("Promise 19", "go, steps, widest, at and last answer NONE just if the run is not DONE");
        for (Named<Program> program : allPrograms()) {
            TokenGraphs x = made(program.it());
            boolean done = x.run() == DONE;
            int[] answers = {x.go(), x.steps(), x.widest(), x.at(0), x.at(1), x.at(MIN), x.at(MAX), x.last()};
            for (int answer : answers) {
                due("a question is NONE with " + program.name(), answer == NONE ? 1 : 0, done ? 0 : 1);
                due("a question is less than 0 with " + program.name(), answer < 0 ? 1 : 0, done ? 0 : 1);
            }
        }
        // A variable's value may be NONE, and that does not make the run so.
        TokenGraphs x = made(y -> y.constant(0, NONE));
        due("value(0, 0)", x.value(0, 0), NONE);
        due("steps()", x.steps(), 1);
        due("go()", x.go(), 0);
    }

    private static void atAnyInt() {
        begin("Promise 19", "else at answers 0 for a t (any int) at which there is no step.");
        for (int lines = 0; lines <= 20; lines++) {
            TokenGraphs x = made(additions(lines));
            for (int t : ANY) {
                due("at(" + t + ") with " + lines + " lines", x.at(t), t >= 1 && t <= lines ? 1 : 0);
            }
        }
        // A late time: 14 rounds of 17 lines, each of which needs the one before it.
        TokenGraphs x = made(NOTHING);
        x.input(0, 14 * 17);
        x.repeat(0);
        for (int n = 0; n < 17; n++) {
            x.operation(0, 1, 0, 3);
        }
        x.close();
        due("constant(2, 1)", x.constant(2, 1), 20);
        due("steps()", x.steps(), 15 + 14 * 27 + 1);
        due("last()", x.last(), 14 * 19 + 4);
        due("at(last())", x.at(14 * 19 + 4), 1);
        due("at(last() - 1)", x.at(14 * 19 + 3), 5);
        for (int t = 14 * 19 + 5; t <= 402; t++) {
            due("at(" + t + ")", x.at(t), 0);
        }
    }
}
