/** The boundary cases that "What it is" and "Terms" name: one test for each sentence. */
public final class TermsBoundaryTest extends Codes {
    private static final int[] EDGES = {
        0, 1, -1, 2, -2, 4, 5, 255, 256, -256, 32768, 65535, 65536, -65536, 46340, 46341,
        1 << 30, -(1 << 30), MOST, MOST - 1, LEAST, LEAST + 1};
    private static final int[] TRUE_NUMBERS = {1, -1, 2, -2, 3, 4, 256, 65536, 1 << 30, MOST, LEAST, LEAST + 1};

    private static final Checks CHECKS = new Checks();

    public static void main(String[] args) {
        CHECKS.sentence("An object is used for at most 512 calls after it has been made",
                TermsBoundaryTest::used512Calls);
        CHECKS.sentence("VARIABLES 0 to 3 each take a value from 0 to 4", TermsBoundaryTest::valuesFrom0To4);
        CHECKS.sentence("that is allowed for them; at the start all five are allowed for each",
                TermsBoundaryTest::allFiveAtTheStart);
        CHECKS.sentence("At most 48 tokens are taken in all", TermsBoundaryTest::atMost48Tokens);
        CHECKS.sentence("At most 48 tokens are taken in all (of whatever kind)",
                TermsBoundaryTest::atMost48TokensOfEachKind);
        CHECKS.sentence("0 is false, everything else is true", TermsBoundaryTest::zeroIsFalseAllElseTrue);
        CHECKS.sentence("a truth that is made is 0 or 1", TermsBoundaryTest::truthsMadeAre0Or1);
        CHECKS.sentence("All arithmetic wraps as in Java", TermsBoundaryTest::arithmeticWraps);
        CHECKS.sentence("0 NUMBER: the int arg", TermsBoundaryTest::rowNumber);
        CHECKS.sentence("1 VARIABLE: the value of the variable arg & 3", TermsBoundaryTest::rowVariable);
        CHECKS.sentence("2 ADD: x y, x + y", TermsBoundaryTest::rowAdd);
        CHECKS.sentence("3 SUB: x y, x - y", TermsBoundaryTest::rowSub);
        CHECKS.sentence("4 MUL: x y, x * y", TermsBoundaryTest::rowMul);
        CHECKS.sentence("5 MIN: x y, the lesser of x and y", TermsBoundaryTest::rowMin);
        CHECKS.sentence("6 MAX: x y, the greater of x and y", TermsBoundaryTest::rowMax);
        CHECKS.sentence("7 EQUAL: x y, 1 if x = y, else 0", TermsBoundaryTest::rowEqual);
        CHECKS.sentence("8 LESS: x y, 1 if x < y, else 0", TermsBoundaryTest::rowLess);
        CHECKS.sentence("9 AND: x y, 1 if both are true, else 0", TermsBoundaryTest::rowAnd);
        CHECKS.sentence("10 OR: x y, 1 if at least one is true", TermsBoundaryTest::rowOr);
        CHECKS.sentence("11 NOT: y, 1 if y is false, else 0", TermsBoundaryTest::rowNot);
        CHECKS.sentence("12 DEMAND: y, nothing: y is a CONDITION from now on", TermsBoundaryTest::rowDemand);
        CHECKS.sentence("(Entries that are still on the stack are no conditions.)",
                TermsBoundaryTest::entriesAreNoConditions);
        CHECKS.sentence("Solutions are ordered by the value of variable 0, then of variable 1, and so on",
                TermsBoundaryTest::orderOfTheSolutions);
        CHECKS.sentence("and counted from 0", TermsBoundaryTest::countedFrom0);
        CHECKS.sentence("There are at most 625", TermsBoundaryTest::atMost625);
        CHECKS.end();
    }

    private static void due(String what, long got, long want) {
        CHECKS.due(what, got, want);
    }

    /** An object after 511 calls, the last ones of which are these tokens. */
    private static FlatSolver after511Calls(int... pairs) {
        FlatSolver x = new FlatSolver();
        for (int call = pairs.length / 2; call < 511; call++) {
            x.clear();
        }
        CHECKS.tokens(x, pairs);
        return x;
    }

    private static void used512Calls() {
        due("call 512 is token", after511Calls(NUMBER, 7).token(VARIABLE, 0), 2);
        due("call 512 is a refused token", after511Calls(NUMBER, 7).token(ADD, 0), -1);
        due("call 512 is conditions", after511Calls(NUMBER, 7, DEMAND, 0).conditions(), 1);
        due("call 512 is solutions", after511Calls(VARIABLE, 1, DEMAND, 0).solutions(), 500);
        due("call 512 is solution", after511Calls(VARIABLE, 1, DEMAND, 0).solution(499, 1), 4);
        due("call 512 is with", after511Calls(VARIABLE, 1, DEMAND, 0).with(1, 4), 125);
        due("call 512 is evaluate", after511Calls(VARIABLE, 3).evaluate(06000), 6);
        due("call 512 is greatest", after511Calls(VARIABLE, 3).greatest(), 4);

        FlatSolver lateClear = new FlatSolver();
        for (int call = 1; call <= 508; call++) {
            lateClear.clear();
        }
        CHECKS.tokens(lateClear, NUMBER, 0, DEMAND, 0);
        lateClear.clear();
        due("solutions after clear as call 511", lateClear.solutions(), 625);
        FlatSolver lateAllow = new FlatSolver();
        for (int call = 1; call <= 511; call++) {
            lateAllow.allow(2, call == 511 ? 31 : 3);
        }
        due("solutions after allow as call 511", lateAllow.solutions(), 625);

        FlatSolver tokens = new FlatSolver();
        for (int call = 1; call <= 512; call++) {
            due("token as call " + call, tokens.token(NUMBER, call), call <= 48 ? call : -1);
        }
        FlatSolver questions = CHECKS.solver(VARIABLE, 0, DEMAND, 0, VARIABLE, 0);
        for (int call = 4; call <= 512; call++) {
            questionAt(call, questions);
        }
    }

    private static void questionAt(int call, FlatSolver x) {
        switch (call % 6) {
            case 0 -> due("conditions as call " + call, x.conditions(), 1);
            case 1 -> due("solutions as call " + call, x.solutions(), 500);
            case 2 -> due("solution as call " + call, x.solution(call % 500, 0), 1 + call % 500 / 125);
            case 3 -> due("with as call " + call, x.with(0, call % 5), call % 5 == 0 ? 0 : 125);
            case 4 -> due("evaluate as call " + call, x.evaluate(call), call & 7);
            default -> due("greatest as call " + call, x.greatest(), 4);
        }
    }

    private static void valuesFrom0To4() {
        for (int v = 0; v < 4; v++) {
            FlatSolver x = new FlatSolver();
            due("no value below 0 of " + v, x.with(v, -1), 0);
            due("the least value of " + v, x.with(v, 0), 125);
            due("the greatest value of " + v, x.with(v, 4), 125);
            due("no value above 4 of " + v, x.with(v, 5), 0);
            due("the first solution's " + v, x.solution(0, v), 0);
            due("the last solution's " + v, x.solution(624, v), 4);
            CHECKS.tokens(x, VARIABLE, v);
            due("the greatest of " + v, x.greatest(), 4);
            CHECKS.tokens(x, NUMBER, 0, VARIABLE, v, SUB, 0);
            due("the greatest of 0 - " + v, x.greatest(), 0);
            x.allow(v, -1);
            due("with every bit allowed, the greatest of 0 - " + v, x.greatest(), 0);
            due("with every bit allowed, all solutions", x.solutions(), 625);
        }
    }

    private static void allFiveAtTheStart() {
        for (int v = 0; v < 4; v++) {
            for (int value = 0; value < 5; value++) {
                FlatSolver x = new FlatSolver();
                due("variable " + v + " with " + value, x.with(v, value), 125);
                CHECKS.tokens(x, VARIABLE, v, NUMBER, value, EQUAL, 0, DEMAND, 0);
                due("variable " + v + " demanded to be " + value, x.solutions(), 125);
                x.allow(v, 31 ^ 1 << value);
                due("variable " + v + " not allowed to be " + value, x.solutions(), 0);
            }
        }
    }

    private static void atMost48Tokens() {
        FlatSolver deep = new FlatSolver();
        for (int i = 1; i <= 48; i++) {
            due("NUMBER as token " + i, deep.token(NUMBER, 100 + i), i);
        }
        due("the value of entry 48", deep.evaluate(0), 148);
        due("the greatest of entry 48", deep.greatest(), 148);
        due("NUMBER as token 49", deep.token(NUMBER, 149), -1);
        due("NUMBER as token 49, again", deep.token(NUMBER, 149), -1);
        due("the top is still entry 48", deep.evaluate(0), 148);

        FlatSolver sum = new FlatSolver();
        for (int i = 0; i < 24; i++) {
            due("entry " + i + " of a deep sum", sum.token(NUMBER, 1 << i), i + 1);
        }
        for (int i = 23; i > 0; i--) {
            due("ADD that leaves " + i, sum.token(ADD, 0), i);
        }
        due("the sum of 24 entries", sum.evaluate(0), (1 << 24) - 1);
        due("NOT as token 48", sum.token(NOT, 0), 1);
        due("NOT as token 49", sum.token(NOT, 0), -1);
        due("the value after 48 tokens", sum.evaluate(0), 0);
    }

    /** Tokens that put nothing, or less than they take, count as well. */
    private static void atMost48TokensOfEachKind() {
        FlatSolver demands = new FlatSolver();
        for (int i = 0; i < 24; i++) {
            CHECKS.tokens(demands, VARIABLE, i, DEMAND, 0);
        }
        due("conditions of 48 tokens", demands.conditions(), 24);
        due("NUMBER as token 49 on an empty stack", demands.token(NUMBER, 1), -1);
        due("VARIABLE as token 49 on an empty stack", demands.token(VARIABLE, 1), -1);
        due("solutions of 24 conditions", demands.solutions(), 256);

        for (int code = ADD; code <= OR; code++) {
            FlatSolver pairs = CHECKS.solver(NUMBER, 1);
            for (int i = 0; i < 23; i++) {
                CHECKS.tokens(pairs, NUMBER, 1, code, 0);
            }
            due("token 48 after code " + code, pairs.token(NUMBER, 1), 2);
            due("token 49 after code " + code, pairs.token(code, 0), -1);
        }
        FlatSolver nots = CHECKS.solver(NUMBER, 0);
        for (int i = 2; i <= 48; i++) {
            due("NOT as token " + i, nots.token(NOT, 0), 1);
        }
        due("NOT as token 49", nots.token(NOT, 0), -1);
        due("0 denied 47 times", nots.evaluate(0), 1);

        FlatSolver last = CHECKS.solver(VARIABLE, 0, DEMAND, 0);
        for (int i = 3; i <= 46; i++) {
            due("VARIABLE as token " + i, last.token(VARIABLE, 1), i - 2);
        }
        CHECKS.tokens(last, LESS, 0);
        due("DEMAND as token 48", last.token(DEMAND, 0), 42);
        due("DEMAND as token 49", last.token(DEMAND, 0), -1);
        due("the condition of token 48 holds", last.solutions(), 0);
        due("and counts", last.conditions(), 2);
    }

    private static int unary(int code, int y) {
        return CHECKS.solver(NUMBER, y, code, 0).evaluate(0);
    }

    private static int binary(int code, int x, int y) {
        return CHECKS.solver(NUMBER, x, NUMBER, y, code, 0).evaluate(0);
    }

    private static void zeroIsFalseAllElseTrue() {
        due("0 AND 0", binary(AND, 0, 0), 0);
        due("0 OR 0", binary(OR, 0, 0), 0);
        due("NOT 0", unary(NOT, 0), 1);
        due("0 demanded", CHECKS.solver(NUMBER, 0, DEMAND, 0).solutions(), 0);
        due("a 0 that is the value of a variable", CHECKS.solver(VARIABLE, 0, DEMAND, 0).with(0, 0), 0);
        due("a 0 that is a wrapped sum", CHECKS.solver(
                NUMBER, LEAST, NUMBER, LEAST, ADD, 0, DEMAND, 0).solutions(), 0);
        for (int t : TRUE_NUMBERS) {
            due(t + " AND 1", binary(AND, t, 1), 1);
            due("1 AND " + t, binary(AND, 1, t), 1);
            due(t + " AND 0", binary(AND, t, 0), 0);
            due("0 AND " + t, binary(AND, 0, t), 0);
            due(t + " OR 0", binary(OR, t, 0), 1);
            due("0 OR " + t, binary(OR, 0, t), 1);
            due("NOT " + t, unary(NOT, t), 0);
            due(t + " demanded", CHECKS.solver(NUMBER, t, DEMAND, 0).solutions(), 625);
        }
        due("numbers without a bit in common", binary(AND, 1, 2), 1);
        due("numbers whose sum is 0", binary(OR, 5, -5), 1);
        due("numbers whose product wraps to 0", binary(AND, 65536, 65536), 1);
    }

    private static void truthsMadeAre0Or1() {
        for (int x : EDGES) {
            for (int y : EDGES) {
                String pair = " of " + x + " and " + y;
                due("EQUAL" + pair, binary(EQUAL, x, y), x == y ? 1 : 0);
                due("LESS" + pair, binary(LESS, x, y), x < y ? 1 : 0);
                due("AND" + pair, binary(AND, x, y), x != 0 && y != 0 ? 1 : 0);
                due("OR" + pair, binary(OR, x, y), x != 0 || y != 0 ? 1 : 0);
            }
            due("NOT of " + x, unary(NOT, x), x == 0 ? 1 : 0);
            due("NOT NOT of " + x, CHECKS.solver(NUMBER, x, NOT, 0, NOT, 0).evaluate(0), x == 0 ? 0 : 1);
        }
        due("truths are numbers to add", CHECKS.solver(
                NUMBER, 9, NUMBER, 9, EQUAL, 0, NUMBER, 6, NUMBER, 3, AND, 0, ADD, 0).evaluate(0), 2);
    }

    private static void arithmeticWraps() {
        due("the greatest int + 1", binary(ADD, MOST, 1), LEAST);
        due("the least int + -1", binary(ADD, LEAST, -1), MOST);
        due("the least int + itself", binary(ADD, LEAST, LEAST), 0);
        due("the greatest int + itself", binary(ADD, MOST, MOST), -2);
        due("the least int - 1", binary(SUB, LEAST, 1), MOST);
        due("the greatest int - -1", binary(SUB, MOST, -1), LEAST);
        due("0 - the least int", binary(SUB, 0, LEAST), LEAST);
        due("the least int * -1", binary(MUL, LEAST, -1), LEAST);
        due("65536 * 65536", binary(MUL, 65536, 65536), 0);
        due("65536 * 32768", binary(MUL, 65536, 32768), LEAST);
        due("46341 * 46341", binary(MUL, 46341, 46341), -2147479015);
        due("the greatest int squared", binary(MUL, MOST, MOST), 1);
        for (int x : EDGES) {
            for (int y : EDGES) {
                due(x + " + " + y, binary(ADD, x, y), (int) ((long) x + y));
                due(x + " - " + y, binary(SUB, x, y), (int) ((long) x - y));
                due(x + " * " + y, binary(MUL, x, y), (int) ((long) x * y));
            }
        }
        due("a sum that wraps before it is compared", CHECKS.solver(
                NUMBER, MOST, VARIABLE, 0, ADD, 0, NUMBER, 0, LESS, 0, DEMAND, 0).solutions(), 500);
        due("the greatest of sums that wrap", CHECKS.solver(
                NUMBER, MOST - 2, VARIABLE, 0, ADD, 0).greatest(), MOST);
        due("the greatest of sums that all wrap but one", CHECKS.solver(
                NUMBER, LEAST, VARIABLE, 0, SUB, 0).greatest(), MOST);
    }

    /** Beneath the entries that the token takes lies one that it must leave. */
    private static void takesAndPuts(int code, int x, int y, int want) {
        FlatSolver solver = CHECKS.solver(NUMBER, 77, NUMBER, x, NUMBER, y);
        due("entries after code " + code, solver.token(code, -3), 2);
        due("code " + code + " of " + x + " and " + y, solver.evaluate(0), want);
        CHECKS.tokens(solver, DEMAND, 0);
        due("the entry beneath, after code " + code, solver.evaluate(0), 77);
    }

    /** The token takes two entries: neither none nor one is enough, and its arg does not matter. */
    private static void takesTwo(int code) {
        due("code " + code + " on no entry", new FlatSolver().token(code, 0), -1);
        due("code " + code + " on one entry", CHECKS.solver(NUMBER, 1).token(code, 0), -1);
        due("code " + code + " on two entries", CHECKS.solver(NUMBER, 1, NUMBER, 1).token(code, 0), 1);
        int[] args = {0, 1, 3, -1, LEAST, MOST};
        int plain = binary(code, 5, 3);
        for (int arg : args) {
            due("code " + code + " with arg " + arg,
                    CHECKS.solver(NUMBER, 5, NUMBER, 3, code, arg).evaluate(07777), plain);
        }
    }

    private static void rowNumber() {
        for (int arg : EDGES) {
            FlatSolver x = new FlatSolver();
            due("entries after NUMBER " + arg, x.token(NUMBER, arg), 1);
            due("the value of NUMBER " + arg, x.evaluate(01234), arg);
            due("the greatest of NUMBER " + arg, x.greatest(), arg);
        }
    }

    private static void rowVariable() {
        int[] args = {0, 1, 2, 3, 4, 5, 6, 7, 8, -1, -2, -3, -4, -5, 256, 257, LEAST, LEAST + 1, MOST, MOST - 1};
        for (int arg : args) {
            FlatSolver x = new FlatSolver();
            due("entries after VARIABLE " + arg, x.token(VARIABLE, arg), 1);
            due("the value of VARIABLE " + arg, x.evaluate(04567), 7 - (arg & 3));
            x.allow(arg & 3, 4);
            due("the greatest of VARIABLE " + arg, x.greatest(), 2);
        }
    }

    private static void rowAdd() {
        takesTwo(ADD);
        takesAndPuts(ADD, 5, 3, 8);
        takesAndPuts(ADD, -5, 3, -2);
    }

    private static void rowSub() {
        takesTwo(SUB);
        takesAndPuts(SUB, 5, 3, 2);
        takesAndPuts(SUB, 3, 5, -2);
    }

    private static void rowMul() {
        takesTwo(MUL);
        takesAndPuts(MUL, 5, 3, 15);
        takesAndPuts(MUL, -5, 3, -15);
        takesAndPuts(MUL, -5, 0, 0);
    }

    private static void rowMin() {
        takesTwo(MIN);
        for (int x : EDGES) {
            for (int y : EDGES) {
                takesAndPuts(MIN, x, y, Math.min(x, y));
            }
        }
    }

    private static void rowMax() {
        takesTwo(MAX);
        for (int x : EDGES) {
            for (int y : EDGES) {
                takesAndPuts(MAX, x, y, Math.max(x, y));
            }
        }
    }

    private static void rowEqual() {
        takesTwo(EQUAL);
        takesAndPuts(EQUAL, 3, 3, 1);
        takesAndPuts(EQUAL, 3, -3, 0);
        takesAndPuts(EQUAL, 0, 0, 1);
        takesAndPuts(EQUAL, 0, LEAST, 0);
        takesAndPuts(EQUAL, 0, 256, 0);
        takesAndPuts(EQUAL, LEAST, LEAST, 1);
        takesAndPuts(EQUAL, LEAST, MOST, 0);
    }

    private static void rowLess() {
        takesTwo(LESS);
        takesAndPuts(LESS, 3, 4, 1);
        takesAndPuts(LESS, 4, 4, 0);
        takesAndPuts(LESS, 4, 3, 0);
        takesAndPuts(LESS, -1, 0, 1);
        takesAndPuts(LESS, LEAST, MOST, 1);
        takesAndPuts(LESS, MOST, LEAST, 0);
        takesAndPuts(LESS, LEAST, LEAST, 0);
        takesAndPuts(LESS, LEAST, 1, 1);
    }

    private static void rowAnd() {
        takesTwo(AND);
        takesAndPuts(AND, 0, 0, 0);
        takesAndPuts(AND, 0, 2, 0);
        takesAndPuts(AND, 2, 0, 0);
        takesAndPuts(AND, 2, 4, 1);
        takesAndPuts(AND, -1, -1, 1);
    }

    private static void rowOr() {
        takesTwo(OR);
        takesAndPuts(OR, 0, 0, 0);
        takesAndPuts(OR, 0, 2, 1);
        takesAndPuts(OR, 2, 0, 1);
        takesAndPuts(OR, 2, 4, 1);
        takesAndPuts(OR, -1, 1, 1);
    }

    private static void rowNot() {
        due("NOT on no entry", new FlatSolver().token(NOT, 0), -1);
        for (int y : EDGES) {
            FlatSolver x = CHECKS.solver(NUMBER, 77, NUMBER, y);
            due("entries after NOT of " + y, x.token(NOT, y), 2);
            due("NOT of " + y, x.evaluate(0), y == 0 ? 1 : 0);
            CHECKS.tokens(x, DEMAND, 0);
            due("the entry beneath NOT of " + y, x.evaluate(0), 77);
        }
        due("NOT on one entry", CHECKS.solver(NUMBER, 5).token(NOT, 0), 1);
    }

    private static void rowDemand() {
        due("DEMAND on no entry", new FlatSolver().token(DEMAND, 0), -1);
        FlatSolver x = CHECKS.solver(NUMBER, 77, VARIABLE, 2);
        due("solutions before", x.solutions(), 625);
        due("entries after DEMAND", x.token(DEMAND, 1), 1);
        due("conditions after DEMAND", x.conditions(), 1);
        due("solutions after DEMAND", x.solutions(), 500);
        due("the entry beneath", x.evaluate(0), 77);
        due("entries after the last DEMAND", x.token(DEMAND, 0), 0);
        due("the value of an emptied stack", x.evaluate(0), 0);
        due("conditions after both", x.conditions(), 2);
        CHECKS.tokens(x, NUMBER, 5, NOT, 0);
        due("the condition stays one while more tokens come", x.solutions(), 500);
        x.allow(2, 1);
        due("and for what is allowed later", x.solutions(), 0);
    }

    private static void entriesAreNoConditions() {
        FlatSolver x = CHECKS.solver(NUMBER, 0);
        due("solutions over a false entry", x.solutions(), 625);
        due("conditions over a false entry", x.conditions(), 0);
        due("the last solution over a false entry", x.solution(624, 0), 4);
        due("with over a false entry", x.with(3, 0), 125);
        due("the greatest of a false entry", x.greatest(), 0);
        CHECKS.tokens(x, VARIABLE, 0, VARIABLE, 1, LESS, 0);
        due("solutions over two entries", x.solutions(), 625);
        CHECKS.tokens(x, DEMAND, 0);
        due("solutions when the upper one is demanded", x.solutions(), 250);
        due("conditions when the upper one is demanded", x.conditions(), 1);
        CHECKS.tokens(x, DEMAND, 0);
        due("solutions when the lower one is demanded", x.solutions(), 0);
    }

    private static void orderOfTheSolutions() {
        FlatSolver firstHalf = new FlatSolver();
        FlatSolver secondHalf = new FlatSolver();
        for (int k = 0; k < 125; k++) {
            due("variable 0 of " + k, firstHalf.solution(5 * k + 1, 0), k / 25);
            due("variable 1 of " + k, firstHalf.solution(5 * k + 1, 1), k / 5 % 5);
            due("variable 2 of " + k, secondHalf.solution(5 * k + 4, 2), k % 5);
            due("variable 3 of " + k, secondHalf.solution(5 * k + k % 5, 3), k % 5);
        }
        // One variable is 1 and the others are 0, so the solution with variable 3 at 1 leads.
        FlatSolver sparse = CHECKS.solver(
                VARIABLE, 0, VARIABLE, 1, ADD, 0, VARIABLE, 2, ADD, 0, VARIABLE, 3, ADD, 0, NUMBER, 1, EQUAL, 0, DEMAND, 0);
        for (int k = 0; k < 4; k++) {
            for (int v = 0; v < 4; v++) {
                due("a single 1, solution " + k + ", variable " + v, sparse.solution(k, v), v == 3 - k ? 1 : 0);
            }
        }
        // The order is that of the values, not that in which they came to be allowed.
        FlatSolver gaps = new FlatSolver();
        for (int v = 3; v >= 0; v--) {
            gaps.allow(v, 16);
            gaps.allow(v, 16 | 2);
        }
        for (int k = 0; k < 16; k++) {
            for (int v = 0; v < 4; v++) {
                due("two values each, solution " + k + ", variable " + v, gaps.solution(k, v), (k >> (3 - v) & 1) * 3 + 1);
            }
        }
    }

    private static void countedFrom0() {
        FlatSolver x = CHECKS.solver(VARIABLE, 3, NUMBER, 2, EQUAL, 0, DEMAND, 0);
        x.allow(0, 8);
        x.allow(1, 2);
        x.allow(2, 17);
        due("before the first", x.solution(-1, 2), -1);
        due("the first", x.solution(0, 2), 0);
        due("the second and last", x.solution(1, 2), 4);
        due("after the last", x.solution(2, 2), -1);
        due("how many", x.solutions(), 2);
        x.allow(2, 16);
        due("the only one", x.solution(0, 2), 4);
        due("after the only one", x.solution(1, 2), -1);
    }

    private static void atMost625() {
        FlatSolver x = new FlatSolver();
        due("all", x.solutions(), 625);
        for (int v = 0; v < 4; v++) {
            due("variable " + v + " of the last", x.solution(624, v), 4);
            due("variable " + v + " past the last", x.solution(625, v), -1);
            x.allow(v, -1);
        }
        due("all bits of each mask", x.solutions(), 625);
        due("past the last of all bits", x.solution(625, 0), -1);
        CHECKS.tokens(x, NUMBER, 1, DEMAND, 0, NUMBER, -1, DEMAND, 0);
        due("under true conditions", x.solutions(), 625);
        due("past the last under true conditions", x.solution(625, 0), -1);
    }
}
