public final class FlatSolver {
    private static final int VARIABLES = 4;
    private static final int VALUES = 5;
    private static final int ALL_VALUES = 31;
    private static final int ASSIGNMENTS = 625;
    private static final int MOST_TOKENS = 48;
    private static final int LEAST_INT = -2147483648;

    private static final int NUMBER = 0;
    private static final int VARIABLE = 1;
    private static final int ADD = 2;
    private static final int SUB = 3;
    private static final int MUL = 4;
    private static final int MIN = 5;
    private static final int MAX = 6;
    private static final int EQUAL = 7;
    private static final int LESS = 8;
    private static final int AND = 9;
    private static final int OR = 10;
    private static final int NOT = 11;
    private static final int DEMAND = 12;

    private final int[] allowedMasks = new int[VARIABLES];
    private final int[] codes = new int[MOST_TOKENS];
    private final int[] args = new int[MOST_TOKENS];
    private int taken;
    private int depth;
    private int demands;

    // The assignment that was looked at last, and the stack that the tokens
    // left for it. No call relies on what an earlier call left here.
    private final int[] values = new int[VARIABLES];
    private final int[] stack = new int[MOST_TOKENS];

    public FlatSolver() {
        for (int v = 0; v < VARIABLES; v++) {
            allowedMasks[v] = ALL_VALUES;
        }
    }

    public void allow(int v, int mask) {
        allowedMasks[v & 3] = mask & ALL_VALUES;
    }

    public int token(int code, int arg) {
        if (code < NUMBER || code > DEMAND || taken >= MOST_TOKENS) {
            return -1;
        }
        int takes = entriesTaken(code);
        if (depth < takes) {
            return -1;
        }
        codes[taken] = code;
        args[taken] = arg;
        taken++;
        depth -= takes;
        if (code == DEMAND) {
            demands++;
        } else {
            depth++;
        }
        return depth;
    }

    public void clear() {
        taken = 0;
        depth = 0;
        demands = 0;
    }

    public int conditions() {
        return demands;
    }

    public int solutions() {
        int count = 0;
        for (int n = 0; n < ASSIGNMENTS; n++) {
            if (isSolution(n)) {
                count++;
            }
        }
        return count;
    }

    public int solution(int k, int v) {
        int number = 0;
        for (int n = 0; n < ASSIGNMENTS; n++) {
            if (isSolution(n)) {
                if (number == k) {
                    return values[v & 3];
                }
                number++;
            }
        }
        return -1;
    }

    public int with(int v, int value) {
        int count = 0;
        for (int n = 0; n < ASSIGNMENTS; n++) {
            if (isSolution(n) && values[v & 3] == value) {
                count++;
            }
        }
        return count;
    }

    public int evaluate(int a) {
        for (int v = 0; v < VARIABLES; v++) {
            values[v] = (a >> (3 * v)) & 7;
        }
        runTokens();
        return depth < 1 ? 0 : stack[depth - 1];
    }

    public int greatest() {
        int best = LEAST_INT;
        if (depth < 1) {
            return best;
        }
        for (int n = 0; n < ASSIGNMENTS; n++) {
            if (isSolution(n) && stack[depth - 1] > best) {
                best = stack[depth - 1];
            }
        }
        return best;
    }

    private static int entriesTaken(int code) {
        if (code == NUMBER || code == VARIABLE) {
            return 0;
        }
        return code == NOT || code == DEMAND ? 1 : 2;
    }

    // Where it answers true, values and stack are those of assignment n.
    private boolean isSolution(int n) {
        setAssignment(n);
        return isAllowed() && runTokens();
    }

    // Variable 0 is the leading digit of n in base five, so that counting n up
    // goes through the assignments in the order of the solutions.
    private void setAssignment(int n) {
        int rest = n;
        for (int v = VARIABLES - 1; v >= 0; v--) {
            values[v] = rest % VALUES;
            rest /= VALUES;
        }
    }

    private boolean isAllowed() {
        for (int v = 0; v < VARIABLES; v++) {
            if (((allowedMasks[v] >> values[v]) & 1) == 0) {
                return false;
            }
        }
        return true;
    }

    // Runs on past a false condition, since evaluate needs the whole stack.
    // The stack never runs empty or over here: token() took only tokens that
    // found their entries, and each puts at most one.
    private boolean runTokens() {
        boolean allTrue = true;
        int size = 0;
        for (int i = 0; i < taken; i++) {
            int code = codes[i];
            size -= entriesTaken(code);
            if (code == DEMAND) {
                allTrue = allTrue && stack[size] != 0;
            } else {
                stack[size] = entryPut(code, args[i], size);
                size++;
            }
        }
        return allTrue;
    }

    // The entries that the token takes still lie in the stack from place on.
    private int entryPut(int code, int arg, int place) {
        if (code == NUMBER) {
            return arg;
        }
        if (code == VARIABLE) {
            return values[arg & 3];
        }
        if (code == NOT) {
            return stack[place] == 0 ? 1 : 0;
        }
        return combined(code, stack[place], stack[place + 1]);
    }

    private static int combined(int code, int x, int y) {
        switch (code) {
            case ADD:
                return x + y;
            case SUB:
                return x - y;
            case MUL:
                return x * y;
            case MIN:
                return x < y ? x : y;
            case MAX:
                return x > y ? x : y;
            case EQUAL:
                return x == y ? 1 : 0;
            case LESS:
                return x < y ? 1 : 0;
            case AND:
                return x != 0 && y != 0 ? 1 : 0;
            case OR:
                return x != 0 || y != 0 ? 1 : 0;
            default:
                return 0;
        }
    }
}
