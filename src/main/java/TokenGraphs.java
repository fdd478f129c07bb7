public final class TokenGraphs {
    public static final int BAD_ARG = -1000000001;
    public static final int FULL = -1000000002;
    public static final int NONE = -1000000003;
    public static final int DONE = 0;
    public static final int TIRED = 1;
    public static final int OPEN = 2;

    private static final int VARIABLES = 4;
    private static final int ORDERS = 3;
    private static final int MAX_LINES = 20;
    private static final int MAX_OPEN = 4;
    private static final int MAX_STEPS = 400;

    // The go has a time as a variable has, so it is kept behind their times.
    private static final int GO = 4;
    private static final int TOKENS = 5;

    // A step is at most 1 later than one of the steps before it, so no time
    // of a run that is not tired is greater than the number of its steps.
    private static final int TIMES = MAX_STEPS + 1;

    // Of two moves in a row at least one makes a step, so the steps end every
    // run long before this.
    private static final int MAX_MOVES = 1000000;

    private static final int NO_BLOCK = -1;

    // The kinds of lines. The first five are the kinds of operations, with
    // the document's numbers.
    private static final int ADD = 0;
    private static final int SUBTRACT = 1;
    private static final int MULTIPLY = 2;
    private static final int LESS = 3;
    private static final int EQUAL = 4;
    private static final int CONSTANT = 5;
    private static final int WHEN = 6;
    private static final int OTHERWISE = 7;
    private static final int REPEAT = 8;
    private static final int CLOSE = 9;

    private final int[] inputs = new int[VARIABLES];

    private int lineCount;
    private final int[] lineKinds = new int[MAX_LINES];
    private final int[] targets = new int[MAX_LINES];
    private final int[] firsts = new int[MAX_LINES];
    private final int[] seconds = new int[MAX_LINES];

    // A when, an otherwise and a repeat each begin a block, named by its line.
    // What is open is kept for every line as it is behind that line: so undo
    // comes back to what was open before by leaving the last line out.
    private final int[] openBlocks = new int[MAX_LINES];
    private final int[] openCounts = new int[MAX_LINES];

    // From the line that begins a block to the one that ends it, and back. The
    // end of an open block may be an old one, but nothing runs while one is open.
    private final int[] blockEnds = new int[MAX_LINES];
    private final int[] blockBegins = new int[MAX_LINES];

    // What the latest run left behind; every question about a run makes it anew.
    private final int[] values = new int[VARIABLES];
    private final int[] times = new int[TOKENS];
    private final int[] stepsPerTime = new int[TIMES];
    private int stepCount;

    public TokenGraphs() {
        lineCount = 0;
    }

    public int input(int v, int x) {
        if (!isVariable(v)) {
            return BAD_ARG;
        }
        int before = inputs[v];
        inputs[v] = x;
        return before;
    }

    public int constant(int v, int k) {
        if (!isVariable(v)) {
            return BAD_ARG;
        }
        return appendStatement(CONSTANT, v, k, 0);
    }

    public int operation(int v, int kind, int a, int b) {
        if (!isVariable(v) || !isVariable(a) || !isVariable(b)) {
            return BAD_ARG;
        }
        if (kind < ADD || kind > EQUAL) {
            return BAD_ARG;
        }
        return appendStatement(kind, v, a, b);
    }

    public int when(int c) {
        return appendOpening(WHEN, c);
    }

    public int otherwise() {
        int block = innermostBlock();
        // Behind an otherwise the innermost block is the otherwise itself, so
        // this also tells whether it was said.
        if (block < 0 || lineKinds[block] != WHEN) {
            return NONE;
        }
        if (lineCount >= MAX_LINES) {
            return FULL;
        }
        int count = openCount();
        endBlock(block);
        return appendLine(OTHERWISE, lineCount, count);
    }

    public int repeat(int c) {
        return appendOpening(REPEAT, c);
    }

    public int close() {
        int block = innermostBlock();
        if (block < 0) {
            return NONE;
        }
        if (lineCount >= MAX_LINES) {
            return FULL;
        }
        int around = blockAround(block);
        int count = openCount();
        endBlock(block);
        return appendLine(CLOSE, around, count - 1);
    }

    public int undo() {
        if (lineCount == 0) {
            return NONE;
        }
        lineCount--;
        return lineCount;
    }

    public void clear() {
        lineCount = 0;
    }

    public int run() {
        return carryOut();
    }

    public int value(int v, int order) {
        if (!isVariable(v) || order < 0 || order >= ORDERS) {
            return BAD_ARG;
        }
        if (carryOut() != DONE) {
            return NONE;
        }
        // A step makes the same from what it needs whenever it is done, so the
        // order has no part in the answer.
        return values[v];
    }

    public int time(int v) {
        if (!isVariable(v)) {
            return BAD_ARG;
        }
        if (carryOut() != DONE) {
            return NONE;
        }
        return times[v];
    }

    public int go() {
        if (carryOut() != DONE) {
            return NONE;
        }
        return times[GO];
    }

    public int steps() {
        if (carryOut() != DONE) {
            return NONE;
        }
        return stepCount;
    }

    public int widest() {
        if (carryOut() != DONE) {
            return NONE;
        }
        int most = 0;
        for (int t = 0; t < TIMES; t++) {
            if (stepsPerTime[t] > most) {
                most = stepsPerTime[t];
            }
        }
        return most;
    }

    public int at(int t) {
        if (carryOut() != DONE) {
            return NONE;
        }
        if (t < 0 || t >= TIMES) {
            return 0;
        }
        return stepsPerTime[t];
    }

    public int last() {
        if (carryOut() != DONE) {
            return NONE;
        }
        int latest = 0;
        for (int t = 0; t < TIMES; t++) {
            if (stepsPerTime[t] > 0) {
                latest = t;
            }
        }
        return latest;
    }

    private static boolean isVariable(int v) {
        return v >= 0 && v < VARIABLES;
    }

    private int innermostBlock() {
        return lineCount > 0 ? openBlocks[lineCount - 1] : NO_BLOCK;
    }

    private int openCount() {
        return lineCount > 0 ? openCounts[lineCount - 1] : 0;
    }

    private int blockAround(int block) {
        int opening = lineKinds[block] == OTHERWISE ? blockBegins[block] : block;
        return opening > 0 ? openBlocks[opening - 1] : NO_BLOCK;
    }

    private int appendStatement(int kind, int v, int first, int second) {
        if (lineCount >= MAX_LINES) {
            return FULL;
        }
        targets[lineCount] = v;
        firsts[lineCount] = first;
        seconds[lineCount] = second;
        int block = innermostBlock();
        int count = openCount();
        return appendLine(kind, block, count);
    }

    private int appendOpening(int kind, int c) {
        if (!isVariable(c)) {
            return BAD_ARG;
        }
        int count = openCount();
        if (lineCount >= MAX_LINES || count >= MAX_OPEN) {
            return FULL;
        }
        firsts[lineCount] = c;
        return appendLine(kind, lineCount, count + 1);
    }

    private void endBlock(int block) {
        blockEnds[block] = lineCount;
        blockBegins[lineCount] = block;
    }

    private int appendLine(int kind, int openBlock, int openCountBehind) {
        lineKinds[lineCount] = kind;
        openBlocks[lineCount] = openBlock;
        openCounts[lineCount] = openCountBehind;
        lineCount++;
        return lineCount;
    }

    private int carryOut() {
        if (openCount() > 0) {
            return OPEN;
        }
        beginRun();
        int line = 0;
        for (int moves = 0; moves < MAX_MOVES; moves++) {
            if (line >= lineCount || stepCount > MAX_STEPS) {
                break;
            }
            line = carryOutLine(line);
        }
        return stepCount > MAX_STEPS ? TIRED : DONE;
    }

    private void beginRun() {
        for (int v = 0; v < VARIABLES; v++) {
            values[v] = inputs[v];
        }
        for (int token = 0; token < TOKENS; token++) {
            times[token] = 0;
        }
        for (int t = 0; t < TIMES; t++) {
            stepsPerTime[t] = 0;
        }
        stepCount = 0;
    }

    // Answers the line that is carried out next.
    private int carryOutLine(int line) {
        switch (lineKinds[line]) {
            case CONSTANT:
                carryOutConstant(line);
                return line + 1;
            case WHEN:
                return enterWhen(line);
            case OTHERWISE:
                return blockEnds[line];
            case REPEAT:
                return enterRepeat(line);
            case CLOSE:
                return passClose(line);
            default:
                carryOutOperation(line);
                return line + 1;
        }
    }

    private void carryOutConstant(int line) {
        int v = targets[line];
        times[v] = stepAfter(times[GO], times[GO]);
        values[v] = firsts[line];
    }

    private void carryOutOperation(int line) {
        int v = targets[line];
        int a = firsts[line];
        int b = seconds[line];
        times[v] = stepAfter(times[a], times[b]);
        values[v] = resultOf(lineKinds[line], values[a], values[b]);
    }

    private static int resultOf(int kind, int a, int b) {
        switch (kind) {
            case ADD:
                return a + b;
            case SUBTRACT:
                return a - b;
            case MULTIPLY:
                return a * b;
            case LESS:
                return a < b ? 1 : 0;
            default:
                return a == b ? 1 : 0;
        }
    }

    private int enterWhen(int line) {
        int c = firsts[line];
        chooseAll(c);
        if (values[c] != 0) {
            return line + 1;
        }
        // A close makes the joining steps, so only an otherwise is passed over.
        int end = blockEnds[line];
        return lineKinds[end] == OTHERWISE ? end + 1 : end;
    }

    private int enterRepeat(int line) {
        int c = firsts[line];
        passAll();
        chooseAll(c);
        if (values[c] != 0) {
            return line + 1;
        }
        passAll();
        return blockEnds[line] + 1;
    }

    // The joining steps behind a repeat's program are made at its begin, where
    // it goes on, because they are the same as there.
    private int passClose(int line) {
        int block = blockBegins[line];
        if (lineKinds[block] == REPEAT) {
            return block;
        }
        passAll();
        return line + 1;
    }

    // Joining or leaving steps: each needs only what it lets through.
    private void passAll() {
        for (int token = 0; token < TOKENS; token++) {
            times[token] = stepAfter(times[token], times[token]);
        }
    }

    private void chooseAll(int c) {
        // All five need c as it was before c itself was let through.
        int chooserTime = times[c];
        for (int token = 0; token < TOKENS; token++) {
            times[token] = stepAfter(times[token], chooserTime);
        }
    }

    // Counts a step that needs what is there at these times; answers its time.
    private int stepAfter(int oneTime, int otherTime) {
        int t = (oneTime > otherTime ? oneTime : otherTime) + 1;
        stepCount++;
        // Only a run that is tired already comes to a later time.
        if (t > 0 && t < TIMES) {
            stepsPerTime[t]++;
        }
        return t;
    }
}
