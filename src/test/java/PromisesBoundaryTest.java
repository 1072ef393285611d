/** The boundary cases that promises 1 to 10 name: one test for each sentence, or for each case in it. */
public final class PromisesBoundaryTest extends Codes {
    private static final int[] NO_CODES = {
        -1, -2, -12, -13, 13, 14, 15, 16, 17, 28, 32, 44, 256, 257, 268, 65536, 65548, LEAST, LEAST + 12, MOST};
    private static final int[] VARIABLES = {
        0, 1, 2, 3, 4, 5, 6, 7, 8, -1, -2, -3, -4, -5, 255, 256, LEAST, LEAST + 3, MOST, MOST - 1};

    private static final Checks CHECKS = new Checks();

    public static void main(String[] args) {
        CHECKS.sentence("Promise 1: No token", PromisesBoundaryTest::newObjectHasNoToken);
        CHECKS.sentence("Promise 1: all values are allowed", PromisesBoundaryTest::newObjectAllowsAllValues);
        CHECKS.sentence("Promise 1: A new object (beside a used one)", PromisesBoundaryTest::newObjectIsItsOwn);
        CHECKS.sentence("Promise 2: the variable v & 3", PromisesBoundaryTest::allowTakesVariableAnd3);
        CHECKS.sentence("Promise 2: exactly those values k for which bit k of mask is set (k from 0 to 4)",
                PromisesBoundaryTest::allowTakesExactlyTheBits);
        CHECKS.sentence("Promise 2: Allows exactly those values (whatever was allowed before)",
                PromisesBoundaryTest::allowReplacesWhatWasAllowed);
        CHECKS.sentence("Promise 3: -1 if code is not from 0 to 12", PromisesBoundaryTest::tokenRefusesOtherCodes);
        CHECKS.sentence("Promise 3: -1 if the stack has fewer entries than the token takes",
                PromisesBoundaryTest::tokenRefusesTooFewEntries);
        CHECKS.sentence("Promise 3: -1 if 48 tokens have been taken", PromisesBoundaryTest::tokenRefusesAfter48);
        CHECKS.sentence("Promise 3: changes nothing if code is not from 0 to 12",
                PromisesBoundaryTest::tokenRefusedForACodeChangesNothing);
        CHECKS.sentence("Promise 3: changes nothing if the stack has fewer entries than the token takes",
                PromisesBoundaryTest::tokenRefusedForEntriesChangesNothing);
        CHECKS.sentence("Promise 3: changes nothing if 48 tokens have been taken",
                PromisesBoundaryTest::tokenRefusedAfter48ChangesNothing);
        CHECKS.sentence("Promise 3: else the number of entries on the stack then",
                PromisesBoundaryTest::tokenAnswersEntries);
        CHECKS.sentence("Promise 4: Removes all tokens", PromisesBoundaryTest::clearRemovesTokens);
        CHECKS.sentence("Promise 4: Removes all conditions", PromisesBoundaryTest::clearRemovesConditions);
        CHECKS.sentence("Promise 4: Removes all entries of the stack", PromisesBoundaryTest::clearRemovesEntries);
        CHECKS.sentence("Promise 4: allowed values stay", PromisesBoundaryTest::clearKeepsAllowedValues);
        CHECKS.sentence("Promise 5: How many conditions there are (from 0 to 24)",
                PromisesBoundaryTest::conditionsFromNoneToMost);
        CHECKS.sentence("Promise 5: How many conditions there are (true, false, alike, not met)",
                PromisesBoundaryTest::conditionsOfEachKind);
        CHECKS.sentence("Promise 6: How many solutions there are (from 0 to 625)",
                PromisesBoundaryTest::solutionsFromNoneToAll);
        CHECKS.sentence("Promise 6: a SOLUTION if all conditions are true for it",
                PromisesBoundaryTest::solutionsMeetEveryCondition);
        CHECKS.sentence("Promise 7: -1 if there is no such solution", PromisesBoundaryTest::solutionOfNoSuchNumber);
        CHECKS.sentence("Promise 7: gives the variable v & 3", PromisesBoundaryTest::solutionTakesVariableAnd3);
        CHECKS.sentence("Promise 8: 0 if value is not from 0 to 4", PromisesBoundaryTest::withNoSuchValue);
        CHECKS.sentence("Promise 8: give the variable v & 3 the value", PromisesBoundaryTest::withTakesVariableAnd3);
        CHECKS.sentence("Promise 8: How many solutions", PromisesBoundaryTest::withCountsSolutionsAlone);
        CHECKS.sentence("Promise 9: variable 0 the value a & 7, variable 1 (a >> 3) & 7, ..",
                PromisesBoundaryTest::evaluateTakesThreeBitsEach);
        CHECKS.sentence("Promise 9: (whether these are allowed or not)", PromisesBoundaryTest::evaluateAllowedOrNot);
        CHECKS.sentence("Promise 9: The value of the top entry of the stack",
                PromisesBoundaryTest::evaluateTopEntryAlone);
        CHECKS.sentence("Promise 9: 0 if the stack is empty", PromisesBoundaryTest::evaluateEmptyStack);
        CHECKS.sentence("Promise 10: the least int (-2147483648) if the stack is empty",
                PromisesBoundaryTest::greatestOfAnEmptyStack);
        CHECKS.sentence("Promise 10: the least int (-2147483648) if there is no solution",
                PromisesBoundaryTest::greatestOfNoSolution);
        CHECKS.sentence("Promise 10: Of the solutions, the greatest value of the top entry of the stack",
                PromisesBoundaryTest::greatestOfSolutionsAlone);
        CHECKS.sentence("Promise 10: the greatest value (from the least int to the greatest)",
                PromisesBoundaryTest::greatestFromLeastToMost);
        CHECKS.end();
    }

    private static void due(String what, long got, long want) {
        CHECKS.due(what, got, want);
    }

    private static void allowNothing(FlatSolver x) {
        for (int v = 0; v < 4; v++) {
            x.allow(v, 0);
        }
    }

    /** An object that has taken 48 tokens: 20 conditions and 8 entries, VARIABLE 3 on top. */
    private static FlatSolver full() {
        FlatSolver x = new FlatSolver();
        for (int i = 0; i < 20; i++) {
            CHECKS.tokens(x, VARIABLE, 0, DEMAND, 0);
        }
        for (int i = 0; i < 8; i++) {
            CHECKS.tokens(x, VARIABLE, i);
        }
        return x;
    }

    private static void newObjectHasNoToken() {
        due("conditions", new FlatSolver().conditions(), 0);
        due("evaluate", new FlatSolver().evaluate(07777), 0);
        due("greatest", new FlatSolver().greatest(), LEAST);
        for (int code = ADD; code <= DEMAND; code++) {
            due("code " + code + " finds no entry", new FlatSolver().token(code, 0), -1);
        }
        FlatSolver x = new FlatSolver();
        for (int i = 1; i <= 48; i++) {
            due("room for token " + i, x.token(VARIABLE, 0), i);
        }
    }

    private static void newObjectAllowsAllValues() {
        FlatSolver x = new FlatSolver();
        due("solutions", x.solutions(), 625);
        for (int v = 0; v < 4; v++) {
            for (int value = 0; value < 5; value++) {
                due("with(" + v + ", " + value + ")", x.with(v, value), 125);
            }
            due("first, variable " + v, x.solution(0, v), 0);
            due("last, variable " + v, x.solution(624, v), 4);
        }
    }

    private static void newObjectIsItsOwn() {
        FlatSolver used = full();
        allowNothing(used);
        FlatSolver x = new FlatSolver();
        due("solutions", x.solutions(), 625);
        due("conditions", x.conditions(), 0);
        due("token", x.token(NUMBER, 9), 1);
        due("greatest", x.greatest(), 9);
        for (int i = 2; i <= 48; i++) {
            CHECKS.tokens(x, NUMBER, 9);
        }
        due("the used one's solutions", used.solutions(), 0);
        due("the used one's conditions", used.conditions(), 20);
        due("the used one's top", used.evaluate(06000), 6);
        due("the used one's tokens", used.token(NUMBER, 9), -1);
    }

    private static void allowTakesVariableAnd3() {
        for (int v : VARIABLES) {
            FlatSolver x = new FlatSolver();
            x.allow(v, 8);
            for (int other = 0; other < 4; other++) {
                due("allow(" + v + ", 8), first value of " + other, x.solution(0, other), other == (v & 3) ? 3 : 0);
                due("allow(" + v + ", 8), last value of " + other, x.solution(124, other), other == (v & 3) ? 3 : 4);
            }
            due("allow(" + v + ", 8), solutions", x.solutions(), 125);
        }
    }

    private static void allowTakesExactlyTheBits() {
        int[] above = {0, 32, 64, 128, 256, 1 << 16, 1 << 30, LEAST, ~31};
        for (int v = 0; v < 4; v++) {
            for (int mask = 0; mask < 32; mask++) {
                FlatSolver x = new FlatSolver();
                for (int more : above) {
                    x.allow(v, 31 ^ mask);
                    x.allow(v, mask | more);
                    due("allow(" + v + ", " + (mask | more) + ")", x.solutions(), 125L * Integer.bitCount(mask));
                }
                for (int value = 0; value < 5; value++) {
                    due("with(" + v + ", " + value + ") of mask " + mask, x.with(v, value), 125L * (mask >> value & 1));
                }
            }
        }
        for (int more : above) {
            FlatSolver x = new FlatSolver();
            allowNothing(x);
            x.allow(2, more);
            due("no other value by mask " + more, x.with(2, 5) + x.with(2, 31) + x.solutions(), 0);
        }
    }

    private static void allowReplacesWhatWasAllowed() {
        FlatSolver x = new FlatSolver();
        x.allow(1, 0);
        due("none", x.solutions(), 0);
        x.allow(1, 3);
        due("two after none", x.solutions(), 250);
        x.allow(1, 12);
        due("two others", x.solutions(), 250);
        due("the earlier ones are gone", x.with(1, 0) + x.with(1, 1), 0);
        due("the later ones are there", x.with(1, 2) + x.with(1, 3), 250);
        x.allow(1, 12);
        due("the same again", x.solutions(), 250);
        x.allow(1, 31);
        due("all five again", x.solutions(), 625);
        allowNothing(x);
        due("none of any", x.solutions(), 0);
        x.allow(0, 31);
        x.allow(1, 31);
        x.allow(2, 31);
        due("none of the last alone", x.solutions(), 0);
        x.allow(3, 31);
        due("all of any", x.solutions(), 625);
    }

    private static void tokenRefusesOtherCodes() {
        for (int code : NO_CODES) {
            due("code " + code + " on no entry", new FlatSolver().token(code, 0), -1);
            due("code " + code + " on one entry", CHECKS.solver(NUMBER, 1).token(code, 1), -1);
            due("code " + code + " on three entries", CHECKS.solver(
                    NUMBER, 1, NUMBER, 1, NUMBER, 1).token(code, 1), -1);
            due("code " + code + " after 48", full().token(code, 1), -1);
        }
        due("the least code", new FlatSolver().token(0, 0), 1);
        due("the greatest code", CHECKS.solver(NUMBER, 1).token(12, 0), 0);
    }

    private static void tokenRefusesTooFewEntries() {
        for (int code = 0; code <= 12; code++) {
            int takes = code <= VARIABLE ? 0 : code <= OR ? 2 : 1;
            int puts = code == DEMAND ? 0 : 1;
            for (int entries = 0; entries <= 3; entries++) {
                int want = entries < takes ? -1 : entries - takes + puts;
                FlatSolver fresh = new FlatSolver();
                FlatSolver emptied = CHECKS.solver(NUMBER, 1, NUMBER, 1, ADD, 0, DEMAND, 0);
                for (int i = 0; i < entries; i++) {
                    CHECKS.tokens(fresh, NUMBER, 1);
                    CHECKS.tokens(emptied, NUMBER, 1);
                }
                due("code " + code + " on " + entries + " entries", fresh.token(code, 0), want);
                due("code " + code + " on " + entries + " entries after a DEMAND", emptied.token(code, 0), want);
            }
        }
    }

    private static void tokenRefusesAfter48() {
        for (int code = 0; code <= 12; code++) {
            due("code " + code + " after 48", full().token(code, 0), -1);
            FlatSolver x = new FlatSolver();
            for (int i = 0; i < 47; i++) {
                CHECKS.tokens(x, NUMBER, 1);
            }
            int want = code <= VARIABLE ? 48 : code <= OR ? 46 : code == NOT ? 47 : 46;
            due("code " + code + " after 47", x.token(code, 0), want);
            due("code " + code + " after that", x.token(code, 0), -1);
        }
    }

    private static void tokenRefusedForACodeChangesNothing() {
        for (int code : NO_CODES) {
            FlatSolver x = CHECKS.solver(VARIABLE, 1, DEMAND, 0, NUMBER, 8, VARIABLE, 2);
            for (int i = 0; i < 50; i++) {
                due("code " + code, x.token(code, 6), -1);
            }
            stillFourTokens("code " + code, x);
        }
    }

    private static void tokenRefusedForEntriesChangesNothing() {
        for (int code = ADD; code <= DEMAND; code++) {
            FlatSolver x = CHECKS.solver(VARIABLE, 1, DEMAND, 0);
            for (int i = 0; i < 50; i++) {
                due("code " + code + " on no entry", x.token(code, 6), -1);
            }
            due("the value after code " + code, x.evaluate(07777), 0);
            due("the greatest after code " + code, x.greatest(), LEAST);
            CHECKS.tokens(x, NUMBER, 8, VARIABLE, 2);
            stillFourTokens("code " + code + " on no entry", x);
        }
        for (int code = ADD; code <= OR; code++) {
            FlatSolver x = CHECKS.solver(VARIABLE, 1, DEMAND, 0, NUMBER, 8);
            for (int i = 0; i < 50; i++) {
                due("code " + code + " on one entry", x.token(code, 6), -1);
            }
            due("the value after code " + code, x.evaluate(07777), 8);
            CHECKS.tokens(x, VARIABLE, 2);
            stillFourTokens("code " + code + " on one entry", x);
        }
    }

    /** VARIABLE 1 is demanded, NUMBER 8 and VARIABLE 2 are the entries, 44 more tokens can come. */
    private static void stillFourTokens(String refused, FlatSolver x) {
        due("conditions after " + refused, x.conditions(), 1);
        due("solutions after " + refused, x.solutions(), 500);
        due("a solution after " + refused, x.solution(0, 1), 1);
        due("with after " + refused, x.with(1, 0), 0);
        due("the top after " + refused, x.evaluate(0500), 5);
        due("the greatest after " + refused, x.greatest(), 4);
        due("the entry beneath after " + refused, x.token(SUB, 0), 1);
        due("8 - variable 2 after " + refused, x.evaluate(0500), 3);
        for (int i = 6; i <= 48; i++) {
            due("token " + i + " after " + refused, x.token(NUMBER, i), i - 4);
        }
        due("token 49 after " + refused, x.token(NUMBER, 49), -1);
    }

    private static void tokenRefusedAfter48ChangesNothing() {
        FlatSolver x = full();
        for (int round = 0; round < 4; round++) {
            for (int code = 0; code <= 12; code++) {
                due("code " + code, x.token(code, 2), -1);
                due("the top after code " + code, x.evaluate(06543), 6);
                due("conditions after code " + code, x.conditions(), 20);
            }
            due("solutions", x.solutions(), 500);
            due("greatest", x.greatest(), 4);
            due("first", x.solution(0, 0), 1);
            due("with", x.with(0, 0), 0);
        }
    }

    private static void tokenAnswersEntries() {
        FlatSolver x = new FlatSolver();
        for (int i = 1; i <= 16; i++) {
            due("NUMBER", x.token(NUMBER, -i), i);
        }
        for (int code = ADD; code <= OR; code++) {
            due("code " + code, x.token(code, -1), 17 - code);
        }
        due("NOT", x.token(NOT, -1), 7);
        for (int i = 6; i >= 0; i--) {
            due("DEMAND", x.token(DEMAND, -1), i);
        }
        due("VARIABLE after all were taken", x.token(VARIABLE, -1), 1);
    }

    private static void clearRemovesTokens() {
        FlatSolver x = full();
        for (int round = 0; round < 3; round++) {
            x.clear();
            for (int i = 1; i <= 48; i++) {
                due("token " + i + " after clear", x.token(NUMBER, i), i);
            }
            due("token 49 after clear", x.token(NUMBER, 49), -1);
        }
        x.clear();
        CHECKS.tokens(x, VARIABLE, 2);
        due("the value of a new token", x.evaluate(0700), 7);
        due("its greatest", x.greatest(), 4);
    }

    private static void clearRemovesConditions() {
        FlatSolver x = CHECKS.solver(NUMBER, 0, DEMAND, 0, VARIABLE, 0, DEMAND, 0);
        due("solutions before", x.solutions(), 0);
        x.clear();
        due("conditions", x.conditions(), 0);
        due("solutions", x.solutions(), 625);
        due("the last solution", x.solution(624, 0), 4);
        due("with", x.with(0, 0), 125);
        CHECKS.tokens(x, VARIABLE, 3, DEMAND, 0);
        due("a new condition", x.conditions(), 1);
        due("its solutions", x.solutions(), 500);
        FlatSolver y = full();
        y.clear();
        due("conditions of a full one", y.conditions(), 0);
        due("solutions of a full one", y.solutions(), 625);
    }

    private static void clearRemovesEntries() {
        for (int code = ADD; code <= DEMAND; code++) {
            FlatSolver x = CHECKS.solver(NUMBER, 5, NUMBER, 6, NUMBER, 7);
            x.clear();
            due("evaluate", x.evaluate(07777), 0);
            due("greatest", x.greatest(), LEAST);
            due("code " + code + " finds no entry", x.token(code, 0), -1);
            due("the first entry", x.token(NUMBER, 8), 1);
        }
        FlatSolver y = new FlatSolver();
        y.clear();
        y.clear();
        due("a new object's entries", y.token(NUMBER, 8), 1);
        due("a new object's value", y.evaluate(0), 8);
    }

    private static void clearKeepsAllowedValues() {
        for (int v = 0; v < 4; v++) {
            FlatSolver x = full();
            x.allow(v, 18);
            x.clear();
            due("solutions", x.solutions(), 250);
            for (int value = 0; value < 5; value++) {
                due("with(" + v + ", " + value + ")", x.with(v, value), value == 1 || value == 4 ? 125 : 0);
            }
            x.allow(v, 0);
            x.clear();
            due("none", x.solutions(), 0);
            x.clear();
            due("none after one more", x.solutions(), 0);
        }
    }

    private static void conditionsFromNoneToMost() {
        FlatSolver x = new FlatSolver();
        for (int i = 0; i < 24; i++) {
            due("conditions", x.conditions(), i);
            CHECKS.tokens(x, VARIABLE, i);
            due("conditions and an entry", x.conditions(), i);
            CHECKS.tokens(x, DEMAND, 0);
        }
        due("conditions of 48 tokens", x.conditions(), 24);
        due("a refused token", x.token(DEMAND, 0), -1);
        due("conditions after it", x.conditions(), 24);
        x.clear();
        due("conditions after clear", x.conditions(), 0);
    }

    private static void conditionsOfEachKind() {
        FlatSolver x = CHECKS.solver(NUMBER, 1, NUMBER, 0, NUMBER, 0, NUMBER, 5);
        due("entries", x.conditions(), 0);
        for (int i = 1; i <= 4; i++) {
            CHECKS.tokens(x, DEMAND, 0);
            due("after DEMAND " + i, x.conditions(), i);
        }
        due("DEMAND on no entry", x.token(DEMAND, 0), -1);
        due("after a refused DEMAND", x.conditions(), 4);
        CHECKS.tokens(x, NUMBER, 0, DEMAND, 0);
        due("after a false one more", x.conditions(), 5);
        CHECKS.tokens(x, VARIABLE, 0, VARIABLE, 0, LESS, 0, DEMAND, 0);
        due("after one that is never met", x.conditions(), 6);
        allowNothing(x);
        due("where nothing is allowed", x.conditions(), 6);
        CHECKS.tokens(x, NUMBER, 1, NOT, 0);
        due("after other tokens", x.conditions(), 6);
    }

    private static void solutionsFromNoneToAll() {
        FlatSolver x = new FlatSolver();
        due("all", x.solutions(), 625);
        CHECKS.tokens(x, VARIABLE, 0, VARIABLE, 1, VARIABLE, 2, VARIABLE, 3, MUL, 0, MUL, 0, MUL, 0, NUMBER, 256, LESS, 0);
        due("all over an entry", x.solutions(), 625);
        CHECKS.tokens(x, DEMAND, 0);
        due("all but the last", x.solutions(), 624);
        CHECKS.tokens(x, VARIABLE, 0, VARIABLE, 1, VARIABLE, 2, VARIABLE, 3, OR, 0, OR, 0, OR, 0, NOT, 0, DEMAND, 0);
        due("the first alone", x.solutions(), 1);
        x.allow(3, 30);
        due("not even that", x.solutions(), 0);
        x.allow(3, 1);
        due("that again", x.solutions(), 1);
        CHECKS.tokens(x, VARIABLE, 3, DEMAND, 0);
        due("conditions against one another", x.solutions(), 0);
        for (int v = 0; v < 4; v++) {
            FlatSolver none = new FlatSolver();
            none.allow(v, 0);
            due("no value of " + v, none.solutions(), 0);
        }
        FlatSolver last = new FlatSolver();
        for (int v = 0; v < 4; v++) {
            last.allow(v, 16);
        }
        due("one value of each", last.solutions(), 1);
    }

    /** Each of 24 conditions alone is the false one, the first and the last among them. */
    private static void solutionsMeetEveryCondition() {
        for (int bad = 0; bad < 24; bad++) {
            FlatSolver x = new FlatSolver();
            for (int i = 0; i < 24; i++) {
                CHECKS.tokens(x, i == bad ? VARIABLE : NUMBER, i == bad ? bad : -1, DEMAND, 0);
            }
            due("solutions with condition " + bad, x.solutions(), 500);
            due("the value that is ruled out", x.with(bad, 0), 0);
            due("a value that is not", x.with(bad, 1), 125);
        }
    }

    private static void solutionOfNoSuchNumber() {
        int[] never = {-1, -2, -624, -625, 625, 626, 1250, 65536, LEAST, LEAST + 1, MOST};
        for (int v = 0; v < 4; v++) {
            FlatSolver all = new FlatSolver();
            FlatSolver some = CHECKS.solver(VARIABLE, v, DEMAND, 0);
            FlatSolver none = CHECKS.solver(NUMBER, 0, DEMAND, 0);
            for (int k : never) {
                due("number " + k + " of 625", all.solution(k, v), -1);
                due("number " + k + " of 500", some.solution(k, v), -1);
                due("number " + k + " of none", none.solution(k, v), -1);
            }
            due("the last of 625", all.solution(624, v), 4);
            due("the last of 500", some.solution(499, v), 4);
            due("after the last of 500", some.solution(500, v), -1);
            due("number 0 of none", none.solution(0, v), -1);
            all.allow(3 - v, 0);
            due("number 0 where nothing is allowed", all.solution(0, v), -1);
            due("number 624 where nothing is allowed", all.solution(624, v), -1);
        }
    }

    private static void solutionTakesVariableAnd3() {
        FlatSolver x = CHECKS.solver(VARIABLE, 3, NUMBER, 4, EQUAL, 0, DEMAND, 0);
        x.allow(0, 2);
        x.allow(1, 4);
        x.allow(2, 8);
        for (int v : VARIABLES) {
            due("variable " + v, x.solution(0, v), (v & 3) + 1);
            due("variable " + v + " of no solution", x.solution(1, v), -1);
        }
    }

    private static void withNoSuchValue() {
        int[] never = {-1, -2, -4, -5, 5, 6, 7, 8, 9, 12, 31, 32, 36, 256, 65536, LEAST, LEAST + 4, MOST};
        for (int v = 0; v < 4; v++) {
            FlatSolver x = new FlatSolver();
            for (int value : never) {
                due("variable " + v + " with " + value, x.with(v, value), 0);
            }
            x.allow(v, -1);
            for (int value : never) {
                due("variable " + v + " with " + value + ", all bits allowed", x.with(v, value), 0);
            }
            x.evaluate(07777);
            due("after an evaluate with 7", x.with(v, 7), 0);
            due("the least value", x.with(v, 0), 125);
            due("the greatest value", x.with(v, 4), 125);
        }
    }

    private static void withTakesVariableAnd3() {
        FlatSolver x = new FlatSolver();
        for (int v = 0; v < 4; v++) {
            x.allow(v, 2 << v);
        }
        for (int v : VARIABLES) {
            for (int value = 0; value < 5; value++) {
                due("variable " + v + " with " + value, x.with(v, value), value == (v & 3) + 1 ? 1 : 0);
            }
        }
    }

    private static void withCountsSolutionsAlone() {
        FlatSolver x = CHECKS.solver(VARIABLE, 1, VARIABLE, 2, LESS, 0, DEMAND, 0);
        for (int value = 0; value < 5; value++) {
            due("variable 1 with " + value, x.with(1, value), 25L * (4 - value));
            due("variable 2 with " + value, x.with(2, value), 25L * value);
        }
        x.allow(1, 8);
        due("the one pair left", x.with(2, 4), 25);
        due("a pair ruled out", x.with(2, 3), 0);
        due("a value not allowed", x.with(1, 0), 0);
        x.allow(0, 0);
        due("where another variable has no value", x.with(2, 4), 0);
    }

    /** An object whose top entry tells the value of each variable as a digit. */
    private static FlatSolver digits() {
        return CHECKS.solver(VARIABLE, 3, NUMBER, 10, MUL, 0, VARIABLE, 2, ADD, 0,
                NUMBER, 10, MUL, 0, VARIABLE, 1, ADD, 0, NUMBER, 10, MUL, 0, VARIABLE, 0, ADD, 0);
    }

    private static void evaluateTakesThreeBitsEach() {
        FlatSolver x = digits();
        int[] places = {1, 10, 100, 1000};
        for (int v = 0; v < 4; v++) {
            for (int value = 0; value < 8; value++) {
                due("variable " + v + " alone is " + value, x.evaluate(value << 3 * v), value * places[v]);
                due("all others are 7 and " + v + " is " + value,
                        x.evaluate(07777 ^ (7 - value) << 3 * v), 7777 - (7 - value) * places[v]);
            }
        }
        due("0", x.evaluate(0), 0);
        due("1234", x.evaluate(01234), 1234);
        due("-1", x.evaluate(-1), 7777);
        due("-2", x.evaluate(-2), 7776);
        due("the least int", x.evaluate(LEAST), 0);
        due("the greatest int", x.evaluate(MOST), 7777);
        due("bit 12", x.evaluate(010000), 0);
        due("all bits from 12 on", x.evaluate(~07777), 0);
        due("a negative number", x.evaluate(~07777 | 05671), 5671);
    }

    private static void evaluateAllowedOrNot() {
        FlatSolver x = digits();
        due("values above 4", x.evaluate(07654), 7654);
        for (int v = 0; v < 4; v++) {
            x.allow(v, 1);
        }
        due("values that are not allowed", x.evaluate(04321), 4321);
        allowNothing(x);
        due("where nothing is allowed", x.evaluate(01234), 1234);
        CHECKS.tokens(x, NUMBER, 0, DEMAND, 0);
        due("where a condition is false", x.evaluate(07531), 7531);
        due("evaluate allows nothing", x.solutions(), 0);
        x.clear();
        for (int v = 0; v < 4; v++) {
            x.allow(v, 31);
        }
        CHECKS.tokens(x, VARIABLE, 0, NUMBER, 7, EQUAL, 0);
        due("a truth of a value above 4", x.evaluate(7), 1);
        due("which no assignment has", x.greatest(), 0);
    }

    private static void evaluateTopEntryAlone() {
        FlatSolver x = CHECKS.solver(NUMBER, 3);
        due("of one entry", x.evaluate(0), 3);
        CHECKS.tokens(x, NUMBER, LEAST);
        due("of two entries", x.evaluate(0), LEAST);
        CHECKS.tokens(x, NUMBER, MOST);
        due("of three entries", x.evaluate(0), MOST);
        CHECKS.tokens(x, DEMAND, 0);
        due("of two again", x.evaluate(0), LEAST);
        CHECKS.tokens(x, DEMAND, 0);
        due("of one again", x.evaluate(0), 3);
        CHECKS.tokens(x, VARIABLE, 1);
        due("for one assignment", x.evaluate(060), 6);
        due("for another", x.evaluate(0), 0);
    }

    private static void evaluateEmptyStack() {
        int[] assignments = {0, 1, 07777, -1, LEAST, MOST};
        FlatSolver cleared = CHECKS.solver(NUMBER, 5);
        due("before clear", cleared.evaluate(0), 5);
        cleared.clear();
        FlatSolver demanded = CHECKS.solver(NUMBER, 5);
        due("before DEMAND", demanded.evaluate(0), 5);
        CHECKS.tokens(demanded, DEMAND, 0);
        FlatSolver full = new FlatSolver();
        for (int i = 0; i < 24; i++) {
            CHECKS.tokens(full, NUMBER, 5, DEMAND, 0);
        }
        for (int a : assignments) {
            due("a new object, " + a, new FlatSolver().evaluate(a), 0);
            due("after clear, " + a, cleared.evaluate(a), 0);
            due("after DEMAND, " + a, demanded.evaluate(a), 0);
            due("after 24 times DEMAND, " + a, full.evaluate(a), 0);
        }
    }

    private static void greatestOfAnEmptyStack() {
        due("a new object", new FlatSolver().greatest(), LEAST);
        FlatSolver x = CHECKS.solver(NUMBER, 5);
        due("before DEMAND", x.greatest(), 5);
        CHECKS.tokens(x, DEMAND, 0);
        due("after DEMAND", x.greatest(), LEAST);
        CHECKS.tokens(x, NUMBER, 6);
        due("before clear", x.greatest(), 6);
        x.clear();
        due("after clear", x.greatest(), LEAST);
        allowNothing(x);
        due("and no solution", x.greatest(), LEAST);
    }

    private static void greatestOfNoSolution() {
        due("by a condition", CHECKS.solver(NUMBER, 0, DEMAND, 0, NUMBER, 5).greatest(), LEAST);
        for (int v = 0; v < 4; v++) {
            FlatSolver x = CHECKS.solver(VARIABLE, v + 1);
            due("all allowed", x.greatest(), 4);
            x.allow(v, 0);
            due("no value of " + v, x.greatest(), LEAST);
            x.allow(v, 1);
            due("one value of " + v, x.greatest(), 4);
        }
    }

    private static void greatestOfSolutionsAlone() {
        FlatSolver x = CHECKS.solver(VARIABLE, 0, VARIABLE, 1, LESS, 0, DEMAND, 0, NUMBER, 99, VARIABLE, 0);
        due("under a condition", x.greatest(), 3);
        x.allow(1, 7);
        due("of what is allowed", x.greatest(), 1);
        x.evaluate(7);
        due("after an evaluate", x.greatest(), 1);
        CHECKS.tokens(x, DEMAND, 0);
        due("the entry beneath", x.greatest(), 99);
        FlatSolver one = CHECKS.solver(VARIABLE, 2);
        for (int value = 0; value < 5; value++) {
            one.allow(2, 1 << value);
            due("the only value " + value, one.greatest(), value);
        }
        FlatSolver middle = CHECKS.solver(VARIABLE, 0, NUMBER, 4, VARIABLE, 0, SUB, 0, MUL, 0);
        due("neither the first nor the last", middle.greatest(), 4);
    }

    private static void greatestFromLeastToMost() {
        int[] numbers = {LEAST, LEAST + 1, LEAST + 4, -1000000, -1, 0, 1, MOST - 1, MOST};
        for (int number : numbers) {
            due("of NUMBER " + number, CHECKS.solver(NUMBER, number).greatest(), number);
        }
        due("all below 0", CHECKS.solver(VARIABLE, 3, NUMBER, 9, SUB, 0).greatest(), -5);
        due("the least int and above", CHECKS.solver(VARIABLE, 3, NUMBER, LEAST, ADD, 0).greatest(), LEAST + 4);
        due("up to the greatest int", CHECKS.solver(NUMBER, MOST, VARIABLE, 3, SUB, 0).greatest(), MOST);
        due("the greatest int and the least", CHECKS.solver(NUMBER, MOST, VARIABLE, 3, ADD, 0).greatest(), MOST);
    }
}
