/** Counts and prints the answers that are not the ones due. */
final class Checks {
    private int wrong = 0;
    private String sentence = "";

    /** Runs the test of one sentence of the document; a call that throws does not hide the other sentences. */
    void sentence(String words, Runnable test) {
        sentence = "[" + words + "] ";
        try {
            test.run();
        } catch (RuntimeException thrown) {
            holds("that no call throws (" + thrown + ")", false);
        }
    }

    void due(String what, long got, long want) {
        if (got != want) {
            wrong++;
            System.out.println(sentence + what + " answered " + got + ", due is " + want);
        }
    }

    void holds(String what, boolean truth) {
        if (!truth) {
            wrong++;
            System.out.println(sentence + what + " does not hold");
        }
    }

    /** Takes (code, arg) pairs that must all be accepted. */
    void tokens(FlatSolver solver, int... pairs) {
        for (int i = 0; i < pairs.length; i += 2) {
            int answer = solver.token(pairs[i], pairs[i + 1]);
            holds("token(" + pairs[i] + ", " + pairs[i + 1] + ") is taken", answer >= 0);
        }
    }

    /** A new object that has taken these (code, arg) pairs. */
    FlatSolver solver(int... pairs) {
        FlatSolver solver = new FlatSolver();
        tokens(solver, pairs);
        return solver;
    }

    void end() {
        System.out.println(wrong == 0 ? "all answers are as due" : wrong + " answers are not as due");
        if (wrong != 0) {
            System.exit(1);
        }
    }
}
