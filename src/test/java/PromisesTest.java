/** Each promise of the document by hand-worked answers: ordinary inputs, named edges, wrong inputs. */
public final class PromisesTest extends Codes {
    private static final Checks CHECKS = new Checks();

    public static void main(String[] args) {
        promise1NewObject();
        promise2Allow();
        promise3Answers();
        promise3Refusals();
        promise3RefusalsChangeNothing();
        promise3AtMost48();
        promise3Codes();
        promise4Clear();
        promise5Conditions();
        promise6Solutions();
        promise7Solution();
        promise8With();
        promise9Evaluate();
        promise10Greatest();
        CHECKS.end();
    }

    private static void due(String what, long got, long want) {
        CHECKS.due(what, got, want);
    }

    /** An object for which variable a < variable b is the only condition. */
    private static FlatSolver less(int a, int b) {
        FlatSolver x = new FlatSolver();
        CHECKS.tokens(x, VARIABLE, a, VARIABLE, b, LESS, 0, DEMAND, 0);
        return x;
    }

    private static void promise1NewObject() {
        FlatSolver x = new FlatSolver();
        due("1: conditions", x.conditions(), 0);
        due("1: solutions", x.solutions(), 625);
        due("1: evaluate", x.evaluate(4095), 0);
        due("1: greatest", x.greatest(), LEAST);
        for (int v = 0; v < 4; v++) {
            for (int value = 0; value < 5; value++) {
                due("1: with(" + v + ", " + value + ")", x.with(v, value), 125);
            }
        }
        due("1: a NOT finds no entry", x.token(NOT, 0), -1);
        less(0, 1).allow(2, 0);
        due("1: objects share nothing", new FlatSolver().solutions(), 625);
    }

    private static void promise2Allow() {
        for (int v = 0; v < 4; v++) {
            for (int mask = 0; mask < 32; mask++) {
                FlatSolver x = new FlatSolver();
                x.allow(v, mask);
                due("2: allow(" + v + ", " + mask + ")", x.solutions(), 125L * Integer.bitCount(mask));
                for (int value = 0; value < 5; value++) {
                    due("2: with(" + v + ", " + value + ") of mask " + mask,
                            x.with(v, value), (mask >> value & 1) * 125L);
                }
            }
        }
        FlatSolver x = new FlatSolver();
        x.allow(1, 1);
        x.allow(1, 6);
        due("2: a later mask replaces the earlier one", x.solutions(), 250);
        due("2: and drops its values", x.with(1, 0), 0);
        x.allow(1, -1);
        due("2: all bits", x.solutions(), 625);
        x.allow(1, ~31);
        due("2: bits above 4 allow nothing", x.solutions(), 0);
        x.allow(1, 31);
        x.allow(-1, 1);
        due("2: variable -1 is 3", x.with(3, 0), 625 / 5);
        due("2: allow(-1, 1)", x.solutions(), 125);
        x.allow(6, 2);
        due("2: variable 6 is 2", x.solution(0, 2), 1);
        x.allow(LEAST, 16);
        due("2: the least int is variable 0", x.solution(0, 0), 4);
        x.allow(MOST, 8);
        due("2: the greatest int is variable 3", x.solution(0, 3), 3);
        due("2: one value each for three", x.solutions(), 5);
    }

    private static void promise3Answers() {
        FlatSolver x = new FlatSolver();
        due("3: NUMBER", x.token(NUMBER, 9), 1);
        due("3: VARIABLE", x.token(VARIABLE, 9), 2);
        int depth = 2;
        for (int code = ADD; code <= OR; code++) {
            due("3: code " + code, x.token(code, 77), depth - 1);
            due("3: NUMBER again", x.token(NUMBER, 1), depth);
        }
        due("3: NOT", x.token(NOT, -1), 2);
        due("3: DEMAND", x.token(DEMAND, -1), 1);
        due("3: DEMAND the last", x.token(DEMAND, 5), 0);
    }

    private static void promise3Refusals() {
        FlatSolver x = new FlatSolver();
        int[] noCodes = {-1, 13, 14, 16, 28, 256, 268, LEAST, MOST, -12};
        for (int filled = 0; filled < 3; filled++) {
            for (int code : noCodes) {
                due("3: code " + code, x.token(code, 0), -1);
            }
            x.token(NUMBER, 1);
        }
        for (int code = ADD; code <= DEMAND; code++) {
            due("3: code " + code + " on no entry", new FlatSolver().token(code, 0), -1);
        }
        for (int code = ADD; code <= OR; code++) {
            FlatSolver one = new FlatSolver();
            one.token(NUMBER, 1);
            due("3: code " + code + " on one entry", one.token(code, 0), -1);
        }
    }

    private static void promise3RefusalsChangeNothing() {
        FlatSolver x = new FlatSolver();
        CHECKS.tokens(x, NUMBER, 7);
        for (int round = 0; round < 60; round++) {
            due("3: refused", x.token(round % 2 == 0 ? ADD : 13, 3), -1);
        }
        due("3: the top stays", x.evaluate(0), 7);
        due("3: no condition", x.conditions(), 0);
        for (int i = 2; i <= 48; i++) {
            due("3: refused tokens do not count", x.token(NUMBER, i), i);
        }
        due("3: the 49th", x.token(NUMBER, 49), -1);
        due("3: the top is the 48th", x.evaluate(0), 48);
    }

    private static void promise3AtMost48() {
        FlatSolver x = new FlatSolver();
        for (int i = 0; i < 23; i++) {
            CHECKS.tokens(x, NUMBER, 1, DEMAND, 0);
        }
        due("3: token 47", x.token(VARIABLE, 0), 1);
        due("3: token 48", x.token(VARIABLE, 1), 2);
        for (int code = 0; code <= 12; code++) {
            due("3: token 49 with code " + code, x.token(code, 0), -1);
        }
        due("3: conditions stay", x.conditions(), 23);
        due("3: the top stays", x.evaluate(3 << 3), 3);
        due("3: the solutions stay", x.solutions(), 625);

        FlatSolver y = new FlatSolver();
        for (int i = 0; i < 24; i++) {
            due("3: up", y.token(NUMBER, 1 << i), i + 1);
        }
        for (int i = 23; i > 0; i--) {
            due("3: down", y.token(ADD, 0), i);
        }
        due("3: a deep sum", y.evaluate(0), (1 << 24) - 1);
        due("3: the 48th token", y.token(NOT, 0), 1);
        due("3: the 49th token", y.token(DEMAND, 0), -1);
        due("3: a sum denied", y.evaluate(0), 0);
    }

    private static long of(int code, int x, int y) {
        FlatSolver solver = new FlatSolver();
        CHECKS.tokens(solver, NUMBER, x, NUMBER, y, code, 0);
        return solver.evaluate(0);
    }

    private static void promise3Codes() {
        int[] numbers = {0, 1, -1, 2, -2, 5, 65536, -65536, 46341, MOST, LEAST, MOST - 1, LEAST + 1};
        for (int x : numbers) {
            for (int y : numbers) {
                String pair = " of " + x + " and " + y;
                due("3: ADD" + pair, of(ADD, x, y), (int) ((long) x + y));
                due("3: SUB" + pair, of(SUB, x, y), (int) ((long) x - y));
                due("3: MUL" + pair, of(MUL, x, y), (int) ((long) x * y));
                due("3: MIN" + pair, of(MIN, x, y), Math.min(x, y));
                due("3: MAX" + pair, of(MAX, x, y), Math.max(x, y));
                due("3: EQUAL" + pair, of(EQUAL, x, y), x == y ? 1 : 0);
                due("3: LESS" + pair, of(LESS, x, y), x < y ? 1 : 0);
                due("3: AND" + pair, of(AND, x, y), x == 0 || y == 0 ? 0 : 1);
                due("3: OR" + pair, of(OR, x, y), x == 0 && y == 0 ? 0 : 1);
            }
            FlatSolver solver = new FlatSolver();
            CHECKS.tokens(solver, NUMBER, x);
            due("3: NUMBER " + x, solver.evaluate(0), x);
            CHECKS.tokens(solver, NOT, 0);
            due("3: NOT of " + x, solver.evaluate(0), x == 0 ? 1 : 0);
        }
        int[] names = {0, 1, 2, 3, 4, 7, -1, -2, LEAST, MOST};
        for (int name : names) {
            FlatSolver solver = new FlatSolver();
            CHECKS.tokens(solver, VARIABLE, name);
            due("3: VARIABLE " + name, solver.evaluate(01234), 4 - (name & 3));
        }
    }

    private static void promise4Clear() {
        FlatSolver x = less(0, 1);
        CHECKS.tokens(x, NUMBER, 8);
        x.allow(2, 3);
        x.clear();
        due("4: conditions", x.conditions(), 0);
        due("4: allowed values stay", x.solutions(), 250);
        due("4: the stack is empty for evaluate", x.evaluate(0), 0);
        due("4: the stack is empty for greatest", x.greatest(), LEAST);
        due("4: the stack is empty for token", x.token(DEMAND, 0), -1);
        for (int round = 0; round < 2; round++) {
            for (int i = 1; i <= 48; i++) {
                due("4: 48 tokens are free", x.token(NUMBER, i), i);
            }
            due("4: but not 49", x.token(NUMBER, 49), -1);
            x.clear();
        }
        x.clear();
        due("4: a clear after a clear", x.token(VARIABLE, 2), 1);
        due("4: and a new greatest", x.greatest(), 1);
    }

    private static void promise5Conditions() {
        FlatSolver x = new FlatSolver();
        CHECKS.tokens(x, NUMBER, 1, NUMBER, 0);
        due("5: entries are no conditions", x.conditions(), 0);
        CHECKS.tokens(x, DEMAND, 0);
        due("5: a false one counts", x.conditions(), 1);
        CHECKS.tokens(x, DEMAND, 0);
        due("5: a true one counts", x.conditions(), 2);
        x.token(DEMAND, 0);
        due("5: a refused one does not", x.conditions(), 2);
        CHECKS.tokens(x, NUMBER, 1, DEMAND, 0);
        due("5: an equal one counts", x.conditions(), 3);
        x.allow(0, 0);
        due("5: allow is no condition", x.conditions(), 3);
    }

    private static void promise6Solutions() {
        FlatSolver x = less(0, 1);
        due("6: pairs in order", x.solutions(), 250);
        CHECKS.tokens(x, NUMBER, 0);
        due("6: a false entry is no condition", x.solutions(), 250);
        CHECKS.tokens(x, VARIABLE, 1, VARIABLE, 2, LESS, 0, DEMAND, 0);
        due("6: triples in order", x.solutions(), 50);
        CHECKS.tokens(x, VARIABLE, 2, VARIABLE, 3, LESS, 0, DEMAND, 0);
        due("6: all in order", x.solutions(), 5);
        x.allow(0, 1);
        due("6: from 0 on", x.solutions(), 4);
        x.allow(3, 15);
        due("6: up to 3", x.solutions(), 1);
        CHECKS.tokens(x, DEMAND, 0);
        due("6: the entry demanded", x.solutions(), 0);

        FlatSolver y = new FlatSolver();
        CHECKS.tokens(y, VARIABLE, 0, DEMAND, 0);
        due("6: every number but 0 is true", y.solutions(), 500);
        CHECKS.tokens(y, NUMBER, LEAST, DEMAND, 0);
        due("6: the least int is true", y.solutions(), 500);
        CHECKS.tokens(y, NUMBER, 0, DEMAND, 0, NUMBER, 1, DEMAND, 0);
        due("6: a true one mends no false one", y.solutions(), 0);
    }

    private static void promise7Solution() {
        FlatSolver x = new FlatSolver();
        for (int k = 0; k < 625; k += 31) {
            due("7: variable 0 of " + k, x.solution(k, 0), k / 125);
            due("7: variable 1 of " + k, x.solution(k, 1), k / 25 % 5);
            due("7: variable 2 of " + k, x.solution(k, 2), k / 5 % 5);
            due("7: variable 3 of " + k, x.solution(k, 3), k % 5);
        }
        due("7: the last", x.solution(624, 2), 4);
        int[] none = {625, -1, LEAST, MOST};
        for (int k : none) {
            due("7: no solution " + k, x.solution(k, 0), -1);
        }
        due("7: variable -1 is 3", x.solution(3, -1), 3);
        due("7: variable 6 is 2", x.solution(10, 6), 2);
        due("7: variable LEAST is 0", x.solution(500, LEAST), 4);

        FlatSolver y = less(2, 1);
        y.allow(0, 16);
        y.allow(3, 2);
        int[][] pairs = {{1, 0}, {2, 0}, {2, 1}, {3, 0}, {3, 1}, {3, 2}, {4, 0}, {4, 1}, {4, 2}, {4, 3}};
        for (int k = 0; k < pairs.length; k++) {
            due("7: the only value of 0", y.solution(k, 0), 4);
            due("7: variable 1 of " + k, y.solution(k, 1), pairs[k][0]);
            due("7: variable 2 of " + k, y.solution(k, 2), pairs[k][1]);
            due("7: the only value of 3", y.solution(k, 3), 1);
        }
        due("7: past the last", y.solution(pairs.length, 0), -1);
        y.allow(0, 0);
        due("7: no solution at all", y.solution(0, 0), -1);
    }

    private static void promise8With() {
        FlatSolver x = less(0, 3);
        for (int value = 0; value < 5; value++) {
            due("8: variable 0 is " + value, x.with(0, value), 25L * (4 - value));
            due("8: variable 1 is " + value, x.with(1, value), 50);
            due("8: variable 3 is " + value, x.with(3, value), 25L * value);
            due("8: variable -1 is " + value, x.with(-1, value), 25L * value);
            due("8: variable 4 is " + value, x.with(4, value), 25L * (4 - value));
        }
        int[] noValues = {-1, 5, 6, 7, 8, 32, LEAST, MOST};
        for (int value : noValues) {
            for (int v = 0; v < 4; v++) {
                due("8: no value " + value, x.with(v, value), 0);
            }
        }
        x.allow(1, 4);
        due("8: an allowed value", x.with(1, 2), 250 / 5);
        due("8: one not allowed", x.with(1, 3), 0);
    }

    private static void promise9Evaluate() {
        FlatSolver x = new FlatSolver();
        due("9: an empty stack", x.evaluate(01234), 0);
        CHECKS.tokens(x, VARIABLE, 3);
        int[] places = {1, 10, 100, 1000};
        for (int v = 0; v < 3; v++) {
            CHECKS.tokens(x, NUMBER, 10, MUL, 0, VARIABLE, 2 - v, ADD, 0);
        }
        due("9: digits", x.evaluate(01234), 1234);
        due("9: values up to 7", x.evaluate(07654), 7654);
        for (int v = 0; v < 4; v++) {
            due("9: variable " + v + " alone", x.evaluate(7 << (3 * v)), 7L * places[v]);
        }
        due("9: -1", x.evaluate(-1), 7777);
        due("9: the least int", x.evaluate(LEAST), 0);
        due("9: bits above 11", x.evaluate(~07777), 0);
        for (int v = 0; v < 4; v++) {
            x.allow(v, 0);
        }
        due("9: allowed or not", x.evaluate(04321), 4321);
        CHECKS.tokens(x, NUMBER, 0, DEMAND, 0);
        due("9: a false condition", x.evaluate(04321), 4321);
        CHECKS.tokens(x, NUMBER, -5);
        due("9: the top entry alone", x.evaluate(04321), -5);
        CHECKS.tokens(x, DEMAND, 0, DEMAND, 0);
        due("9: an emptied stack", x.evaluate(04321), 0);
    }

    private static void promise10Greatest() {
        FlatSolver x = less(0, 1);
        due("10: an empty stack", x.greatest(), LEAST);
        CHECKS.tokens(x, VARIABLE, 0);
        due("10: bound by the condition", x.greatest(), 3);
        CHECKS.tokens(x, VARIABLE, 1, SUB, 0);
        due("10: a greatest below 0", x.greatest(), -1);
        x.allow(1, 16);
        x.allow(0, 3);
        due("10: of allowed values", x.greatest(), -3);
        x.evaluate(07777);
        due("10: not of what was evaluated", x.greatest(), -3);
        CHECKS.tokens(x, NUMBER, MOST);
        due("10: the top entry alone", x.greatest(), MOST);
        CHECKS.tokens(x, NUMBER, 0, DEMAND, 0);
        due("10: no solution", x.greatest(), LEAST);
        x.clear();
        CHECKS.tokens(x, NUMBER, LEAST);
        due("10: the least int", x.greatest(), LEAST);
        x.clear();
        x.allow(0, 31);
        CHECKS.tokens(x, VARIABLE, 0, NUMBER, MOST - 2, ADD, 0);
        due("10: after a wrap", x.greatest(), MOST);
        x.allow(0, 0);
        due("10: nothing allowed", x.greatest(), LEAST);
    }
}
