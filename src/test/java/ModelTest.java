import java.util.ArrayDeque;
import java.util.ArrayList;
import java.util.Deque;
import java.util.List;
import java.util.Random;

/** Long runs of calls, each answer compared with that of a model built in another way. */
public final class ModelTest {
    private static final int RUNS = 400;
    private static final int CALLS = 512;

    private interface Expression {
        int of(int[] values);
    }

    /** Keeps expressions as functions and solutions as a list. */
    private static final class Model {
        private final int[] masks = {31, 31, 31, 31};
        private Deque<Expression> entries = new ArrayDeque<>();
        private List<Expression> conditions = new ArrayList<>();
        private int tokens = 0;

        void clear() {
            entries = new ArrayDeque<>();
            conditions = new ArrayList<>();
            tokens = 0;
        }

        int token(int code, int arg) {
            int needs = code < 2 ? 0 : code < 11 ? 2 : 1;
            if (code < 0 || code > 12 || entries.size() < needs || tokens == 48) {
                return -1;
            }
            tokens++;
            if (code == 0) {
                entries.push(a -> arg);
            } else if (code == 1) {
                entries.push(a -> a[arg & 3]);
            } else if (code == 11) {
                Expression y = entries.pop();
                entries.push(a -> y.of(a) == 0 ? 1 : 0);
            } else if (code == 12) {
                conditions.add(entries.pop());
            } else {
                Expression y = entries.pop();
                Expression x = entries.pop();
                entries.push(pair(code, x, y));
            }
            return entries.size();
        }

        private static Expression pair(int code, Expression x, Expression y) {
            return switch (code) {
                case 2 -> a -> x.of(a) + y.of(a);
                case 3 -> a -> x.of(a) - y.of(a);
                case 4 -> a -> x.of(a) * y.of(a);
                case 5 -> a -> Math.min(x.of(a), y.of(a));
                case 6 -> a -> Math.max(x.of(a), y.of(a));
                case 7 -> a -> x.of(a) == y.of(a) ? 1 : 0;
                case 8 -> a -> x.of(a) < y.of(a) ? 1 : 0;
                case 9 -> a -> x.of(a) != 0 && y.of(a) != 0 ? 1 : 0;
                default -> a -> x.of(a) != 0 || y.of(a) != 0 ? 1 : 0;
            };
        }

        List<int[]> solutions() {
            List<int[]> all = new ArrayList<>();
            for (int p = 0; p < 5; p++) {
                for (int q = 0; q < 5; q++) {
                    for (int r = 0; r < 5; r++) {
                        for (int s = 0; s < 5; s++) {
                            int[] values = {p, q, r, s};
                            if (allowed(values) && conditions.stream().allMatch(c -> c.of(values) != 0)) {
                                all.add(values);
                            }
                        }
                    }
                }
            }
            return all;
        }

        private boolean allowed(int[] values) {
            for (int v = 0; v < 4; v++) {
                if ((masks[v] & 1 << values[v]) == 0) {
                    return false;
                }
            }
            return true;
        }

        int evaluate(int a) {
            int[] values = {a & 7, a >> 3 & 7, a >> 6 & 7, a >> 9 & 7};
            return entries.isEmpty() ? 0 : entries.peek().of(values);
        }

        int greatest() {
            if (entries.isEmpty()) {
                return Integer.MIN_VALUE;
            }
            return solutions().stream().mapToInt(entries.peek()::of).max().orElse(Integer.MIN_VALUE);
        }
    }

    private static final Checks CHECKS = new Checks();

    public static void main(String[] args) {
        for (int run = 0; run < RUNS; run++) {
            compare(run);
        }
        CHECKS.end();
    }

    /** The run's number is the seed, so that every run is the same each time. */
    private static void compare(int run) {
        Random random = new Random(run);
        FlatSolver solver = new FlatSolver();
        Model model = new Model();
        for (int call = 0; call < CALLS; call++) {
            step(random, solver, model, "run " + run + ", call " + call + ": ");
        }
    }

    private static void step(Random random, FlatSolver solver, Model model, String where) {
        int v = random.nextInt(4) == 0 ? random.nextInt() : random.nextInt(4);
        int pick = random.nextInt(120);
        if (pick < 2) {
            solver.clear();
            model.clear();
        } else if (pick < 6) {
            int mask = random.nextInt() | random.nextInt();
            solver.allow(v, mask);
            model.masks[v & 3] = mask & 31;
        } else if (pick < 80) {
            int code = code(random, model);
            int arg = code == 1 ? v : number(random);
            CHECKS.due(where + "token(" + code + ", " + arg + ")", solver.token(code, arg), model.token(code, arg));
        } else if (pick < 86) {
            CHECKS.due(where + "conditions()", solver.conditions(), model.conditions.size());
        } else if (pick < 92) {
            CHECKS.due(where + "solutions()", solver.solutions(), model.solutions().size());
        } else if (pick < 100) {
            solution(random, solver, model, v, where);
        } else if (pick < 106) {
            int value = random.nextInt(7) - 1;
            long want = model.solutions().stream().filter(s -> s[v & 3] == value).count();
            CHECKS.due(where + "with(" + v + ", " + value + ")", solver.with(v, value), want);
        } else if (pick < 114) {
            int a = random.nextBoolean() ? random.nextInt() : random.nextInt(4096);
            CHECKS.due(where + "evaluate(" + a + ")", solver.evaluate(a), model.evaluate(a));
        } else {
            CHECKS.due(where + "greatest()", solver.greatest(), model.greatest());
        }
    }

    private static void solution(Random random, FlatSolver solver, Model model, int v, String where) {
        List<int[]> all = model.solutions();
        int k = random.nextInt(all.size() + 3) - 1;
        int want = k < 0 || k >= all.size() ? -1 : all.get(k)[v & 3];
        CHECKS.due(where + "solution(" + k + ", " + v + ")", solver.solution(k, v), want);
    }

    /** Mostly codes that can be taken; conditions are rare, so that solutions stay. */
    private static int code(Random random, Model model) {
        int pick = random.nextInt(20);
        if (pick == 0) {
            return random.nextInt(17) - 2;
        }
        if (pick == 1) {
            return 12;
        }
        if (model.entries.size() < 2 || pick < 9) {
            return random.nextInt(3) == 0 ? 0 : 1;
        }
        return 2 + random.nextInt(10);
    }

    private static int number(Random random) {
        return random.nextInt(3) == 0 ? random.nextInt() : random.nextInt(9) - 3;
    }
}
