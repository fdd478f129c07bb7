import java.util.ArrayList;
import java.util.List;
import java.util.PriorityQueue;

// Compares long runs of calls with a second program that follows the document's
// words: it writes down every step of a run with the steps that it needs, and
// does the steps afterwards, in each of the three orders.
public final class ModelTest {
    private static final int OBJECTS = 4000;
    private static final int CALLS = 512;

    private static int wrong = 0;
    private static final int[] ends = new int[3];
    private static int longRuns = 0;
    private static int refused = 0;

    public static void main(String[] args) {
        for (int seed = 1; seed <= OBJECTS && wrong == 0; seed++) {
            new Session(seed).play();
        }
        System.out.println("runs done " + ends[0] + ", tired " + ends[1] + ", open " + ends[2]
            + "; done with over 100 steps " + longRuns + "; calls refused " + refused);
        // A comparison that never meets one of these would show little.
        boolean rich = ends[0] > 1000 && ends[1] > 1000 && ends[2] > 1000
            && longRuns > 1000 && refused > 1000;
        if (!rich) {
            System.out.println("the calls are not rich enough");
        }
        System.out.println(wrong == 0 ? "all answers are as due" : "an answer is not as due");
        if (wrong != 0 || !rich) {
            System.exit(1);
        }
    }

    // One object and its model; the calls follow from the seed alone.
    private static final class Session {
        private final TokenGraphs real = new TokenGraphs();
        private final Model model = new Model();
        private final StringBuilder history = new StringBuilder();
        private long state;
        private int calls = 0;

        Session(int seed) {
            state = seed * 0x9E3779B97F4A7C15L;
        }

        private int below(int n) {
            state = state * 6364136223846793005L + 1442695040888963407L;
            return (int) ((state >>> 33) % n);
        }

        private int variable() {
            return below(60) == 0 ? strange() : below(4);
        }

        private int number() {
            return below(12) == 0 ? strange() : below(7) - 2;
        }

        // Neither a variable nor an order; 4 is a kind, though.
        private int strange() {
            int[] all = {-1, 4, 5, 65536, Integer.MIN_VALUE, Integer.MAX_VALUE};
            return all[below(all.length)];
        }

        private void due(String call, int got, int want) {
            calls++;
            if (want <= -1000000001 && want >= -1000000003) {
                refused++;
            }
            if (got != want && wrong == 0) {
                wrong++;
                System.out.println(history + call + " answered " + got + ", due is " + want);
            }
        }

        private void changed(String call, int got, int want) {
            due(call, got, want);
            history.append(call).append(" -> ").append(got).append('\n');
        }

        void play() {
            for (int v = 0; v < 4; v++) {
                giveInput(v, below(6));
            }
            if (below(2) == 0) {
                writeLoop();
            }
            while (calls < CALLS - 40 && wrong == 0) {
                change();
                if (below(5) == 0) {
                    question();
                }
            }
        }

        // A countdown around other lines: without it few loops would end.
        private void writeLoop() {
            giveInput(0, 1 + below(9));
            giveInput(3, 1);
            writeRepeat(0);
            int inner = below(4);
            for (int n = 0; n < inner; n++) {
                writeOperation(1 + below(2), below(5), below(4), below(4));
            }
            if (below(2) == 0) {
                writeWhen(below(4));
                writeConstant(1 + below(2), number());
                if (below(2) == 0) {
                    changed("otherwise()", real.otherwise(), model.otherwise());
                    writeOperation(1 + below(2), below(5), below(4), below(4));
                }
                changed("close()", real.close(), model.close());
            }
            writeOperation(0, 1, 0, 3);
            changed("close()", real.close(), model.close());
            question();
        }

        private void change() {
            int which = below(100);
            if (which < 12) {
                giveInput(variable(), number());
            } else if (which < 28) {
                writeConstant(variable(), number());
            } else if (which < 54) {
                writeOperation(variable(), below(30) == 0 ? strange() : below(5), variable(), variable());
            } else if (which < 62) {
                writeWhen(variable());
            } else if (which < 68) {
                changed("otherwise()", real.otherwise(), model.otherwise());
            } else if (which < 73) {
                writeRepeat(variable());
            } else if (which < 86) {
                changed("close()", real.close(), model.close());
            } else if (which < 98) {
                changed("undo()", real.undo(), model.undo());
            } else {
                real.clear();
                model.lines.clear();
                changed("clear()", 0, 0);
            }
        }

        private void giveInput(int v, int x) {
            changed("input(" + v + ", " + x + ")", real.input(v, x), model.input(v, x));
        }

        private void writeConstant(int v, int k) {
            changed("constant(" + v + ", " + k + ")", real.constant(v, k), model.constant(v, k));
        }

        private void writeOperation(int v, int kind, int a, int b) {
            changed("operation(" + v + ", " + kind + ", " + a + ", " + b + ")",
                real.operation(v, kind, a, b), model.operation(v, kind, a, b));
        }

        private void writeWhen(int c) {
            changed("when(" + c + ")", real.when(c), model.opening("when", c));
        }

        private void writeRepeat(int c) {
            changed("repeat(" + c + ")", real.repeat(c), model.opening("repeat", c));
        }

        private void question() {
            Run run = model.run();
            boolean done = run.end == 0;
            ends[run.end]++;
            if (done && run.steps.size() > 100) {
                longRuns++;
            }
            due("run()", real.run(), run.end);
            for (int v = 0; v < 4; v++) {
                int order = below(3);
                due("value(" + v + ", " + order + ")", real.value(v, order),
                    done ? run.valueIn(order, v) : Model.NONE);
                due("time(" + v + ")", real.time(v), done ? run.current[v].time : Model.NONE);
            }
            due("go()", real.go(), done ? run.current[4].time : Model.NONE);
            due("steps()", real.steps(), done ? run.steps.size() : Model.NONE);
            due("widest()", real.widest(), done ? run.widest() : Model.NONE);
            due("last()", real.last(), done ? run.last() : Model.NONE);
            int t = below(4) == 0 ? strange() : below(run.last() + 2);
            due("at(" + t + ")", real.at(t), done ? run.at(t) : Model.NONE);
            int bad = strange();
            due("value(0, " + bad + ")", real.value(0, bad), Model.BAD_ARG);
            due("value(" + bad + ", 0)", real.value(bad, 0), Model.BAD_ARG);
            due("time(" + bad + ")", real.time(bad), Model.BAD_ARG);
        }
    }

    private record Line(String word, int v, int kind, int a, int b) {
    }

    // What a when or repeat still open is, and whether its otherwise was said.
    private record Opened(boolean isWhen, boolean said) {
    }

    private static final class Model {
        static final int BAD_ARG = -1000000001;
        static final int FULL = -1000000002;
        static final int NONE = -1000000003;

        final List<Line> lines = new ArrayList<>();
        final int[] inputs = new int[4];

        private static boolean outside(int v, int most) {
            return v < 0 || v > most;
        }

        // What is open is found anew from the first line on.
        private List<Opened> opened() {
            List<Opened> all = new ArrayList<>();
            for (Line line : lines) {
                switch (line.word()) {
                    case "when" -> all.add(new Opened(true, false));
                    case "repeat" -> all.add(new Opened(false, false));
                    case "otherwise" -> all.set(all.size() - 1, new Opened(true, true));
                    case "close" -> all.remove(all.size() - 1);
                    default -> { }
                }
            }
            return all;
        }

        private int append(Line line) {
            if (lines.size() == 20) {
                return FULL;
            }
            lines.add(line);
            return lines.size();
        }

        int input(int v, int x) {
            if (outside(v, 3)) {
                return BAD_ARG;
            }
            int before = inputs[v];
            inputs[v] = x;
            return before;
        }

        int constant(int v, int k) {
            return outside(v, 3) ? BAD_ARG : append(new Line("constant", v, 0, k, 0));
        }

        int operation(int v, int kind, int a, int b) {
            if (outside(v, 3) || outside(a, 3) || outside(b, 3) || outside(kind, 4)) {
                return BAD_ARG;
            }
            return append(new Line("operation", v, kind, a, b));
        }

        int opening(String word, int c) {
            if (outside(c, 3)) {
                return BAD_ARG;
            }
            return opened().size() == 4 ? FULL : append(new Line(word, c, 0, 0, 0));
        }

        int otherwise() {
            List<Opened> all = opened();
            if (all.isEmpty()) {
                return NONE;
            }
            Opened innermost = all.get(all.size() - 1);
            if (!innermost.isWhen() || innermost.said()) {
                return NONE;
            }
            return append(new Line("otherwise", 0, 0, 0, 0));
        }

        int close() {
            return opened().isEmpty() ? NONE : append(new Line("close", 0, 0, 0, 0));
        }

        int undo() {
            if (lines.isEmpty()) {
                return NONE;
            }
            lines.remove(lines.size() - 1);
            return lines.size();
        }

        Run run() {
            Run run = new Run(inputs);
            if (!opened().isEmpty()) {
                run.end = 2;
            } else {
                try {
                    run.carryOut(new Parser(lines).program());
                } catch (TooManySteps tired) {
                    run.end = 1;
                }
            }
            return run;
        }
    }

    // A statement with the programs inside it.
    private record Statement(Line line, List<Statement> first, List<Statement> second) {
    }

    private static final class Parser {
        private final List<Line> lines;
        private int next = 0;

        Parser(List<Line> lines) {
            this.lines = lines;
        }

        List<Statement> program() {
            List<Statement> all = new ArrayList<>();
            while (next < lines.size() && !isBorder(lines.get(next).word())) {
                all.add(statement());
            }
            return all;
        }

        private static boolean isBorder(String word) {
            return word.equals("otherwise") || word.equals("close");
        }

        private Statement statement() {
            Line line = lines.get(next++);
            if (!line.word().equals("when") && !line.word().equals("repeat")) {
                return new Statement(line, List.of(), List.of());
            }
            List<Statement> first = program();
            List<Statement> second = List.of();
            if (lines.get(next).word().equals("otherwise")) {
                next++;
                second = program();
            }
            next++;
            return new Statement(line, first, second);
        }
    }

    @SuppressWarnings("serial")
    private static final class TooManySteps extends RuntimeException {
    }

    // Something that is there at a time: made by a step, or there at the begin.
    private static final class Made {
        final int number;
        final int kind;
        final int fixed;
        final List<Made> needs;
        final int time;
        final int value;

        static final int LET_THROUGH = 5;
        static final int FIXED = 6;

        Made(int number, int kind, int fixed, List<Made> needs) {
            this.number = number;
            this.kind = kind;
            this.fixed = fixed;
            this.needs = needs;
            int latest = -1;
            List<Integer> values = new ArrayList<>();
            for (Made need : needs) {
                latest = Math.max(latest, need.time);
                values.add(need.value);
            }
            this.time = latest + 1;
            this.value = result(values);
        }

        int result(List<Integer> of) {
            return switch (kind) {
                case 0 -> (int) ((long) of.get(0) + of.get(1));
                case 1 -> (int) ((long) of.get(0) - of.get(1));
                case 2 -> (int) ((long) of.get(0) * of.get(1));
                case 3 -> of.get(0).compareTo(of.get(1)) < 0 ? 1 : 0;
                case 4 -> of.get(0).equals(of.get(1)) ? 1 : 0;
                case LET_THROUGH -> of.get(0);
                default -> fixed;
            };
        }
    }

    private static final class Run {
        int end = 0;
        final List<Made> steps = new ArrayList<>();
        final Made[] current = new Made[5];

        Run(int[] inputs) {
            for (int i = 0; i < 5; i++) {
                current[i] = new Made(-1, Made.FIXED, i < 4 ? inputs[i] : 0, List.of());
            }
        }

        private Made step(int kind, int fixed, Made... needs) {
            if (steps.size() == 400) {
                throw new TooManySteps();
            }
            Made made = new Made(steps.size(), kind, fixed, List.of(needs));
            steps.add(made);
            return made;
        }

        private void join() {
            for (int i = 0; i < 5; i++) {
                current[i] = step(Made.LET_THROUGH, 0, current[i]);
            }
        }

        private boolean choose(int c) {
            Made chooser = current[c];
            for (int i = 0; i < 5; i++) {
                current[i] = step(Made.LET_THROUGH, 0, current[i], chooser);
            }
            return chooser.value != 0;
        }

        void carryOut(List<Statement> program) {
            for (Statement statement : program) {
                Line line = statement.line();
                switch (line.word()) {
                    case "constant" -> current[line.v()] = step(Made.FIXED, line.a(), current[4]);
                    case "operation" -> current[line.v()] =
                        step(line.kind(), 0, current[line.a()], current[line.b()]);
                    case "when" -> {
                        carryOut(choose(line.v()) ? statement.first() : statement.second());
                        join();
                    }
                    default -> {
                        join();
                        while (choose(line.v())) {
                            carryOut(statement.first());
                            join();
                        }
                        join();
                    }
                }
            }
        }

        int at(int t) {
            int count = 0;
            for (Made step : steps) {
                count += step.time == t ? 1 : 0;
            }
            return count;
        }

        int last() {
            int latest = 0;
            for (Made step : steps) {
                latest = Math.max(latest, step.time);
            }
            return latest;
        }

        int widest() {
            int most = 0;
            for (int t = 0; t <= last(); t++) {
                most = Math.max(most, at(t));
            }
            return most;
        }

        // Does the steps one after the other; a step could happen as soon as
        // all that it needs has been made.
        int valueIn(int order, int v) {
            Integer[] results = new Integer[steps.size()];
            boolean[] waiting = new boolean[steps.size()];
            List<Made> possible = new ArrayList<>();
            PriorityQueue<Made> byTime = new PriorityQueue<>((p, q) ->
                p.time != q.time ? Integer.compare(p.time, q.time) : Integer.compare(p.number, q.number));
            for (int done = 0; done <= steps.size(); done++) {
                for (Made step : steps) {
                    if (!waiting[step.number] && valuesOf(step, results) != null) {
                        waiting[step.number] = true;
                        possible.add(step);
                        byTime.add(step);
                    }
                }
                if (done < steps.size()) {
                    Made next = order == 2 ? byTime.remove()
                        : possible.remove(order == 0 ? 0 : possible.size() - 1);
                    results[next.number] = next.result(valuesOf(next, results));
                }
            }
            return valueOf(current[v], results);
        }

        private static List<Integer> valuesOf(Made step, Integer[] results) {
            List<Integer> values = new ArrayList<>();
            for (Made need : step.needs) {
                Integer value = valueOf(need, results);
                if (value == null) {
                    return null;
                }
                values.add(value);
            }
            return values;
        }

        private static Integer valueOf(Made made, Integer[] results) {
            return made.number < 0 ? Integer.valueOf(made.value) : results[made.number];
        }
    }
}
