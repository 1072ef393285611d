/** The codes of the tokens and the ends of the ints, by name; tests extend it to use the bare names. */
abstract class Codes {
    static final int NUMBER = 0;
    static final int VARIABLE = 1;
    static final int ADD = 2;
    static final int SUB = 3;
    static final int MUL = 4;
    static final int MIN = 5;
    static final int MAX = 6;
    static final int EQUAL = 7;
    static final int LESS = 8;
    static final int AND = 9;
    static final int OR = 10;
    static final int NOT = 11;
    static final int DEMAND = 12;
    static final int LEAST = Integer.MIN_VALUE;
    static final int MOST = Integer.MAX_VALUE;
}
