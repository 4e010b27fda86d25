/** Promise 7: shorten, on entries whose shorter form was worked out by hand from the document. */
final class ShortenTest {
    public static void main(String[] args) {
        numberBecomesZero();
        numberThatMustStay();
        objectBecomesTheLeast();
        onlyTheLeastIsTried();
        leastOfTheRightType();
        leastOfAClassThatExtends();
        sameTroubleOrFault();
        sameOutcome();
        variablesByStatements();
        variablesByArguments();
        variablesByStatementsBeforeArguments();
        statementsAfterVariables();
        statementsBeforeLiterals();
        statementsFromTheLast();
        laterNumbersFall();
        literalsByStatements();
        literalsByStatementsBeforeArguments();
        literalOfTheLastStatement();
        onePassOnly();
        oneStatement();
        tenStatements();
        nullStays();
        everyTroubleAndFault();
        twoEntriesAlike();
        allElseStays();
        refusals();
        worldAtLarge();
        Check.end();
    }

    private static Script.World world(int[][] types, int[][] operations, int... literals) {
        return x -> {
            for (int[] type : types) {
                x.type(type[0], type[1], type[2]);
            }
            for (int[] operation : operations) {
                x.operation(operation[0], operation[1], operation[2]);
            }
            for (int literal : literals) {
                x.literal(literal);
            }
        };
    }

    private static final int[][] ALONE = {{0, 0, 0}};
    /** Two objects of the class are EQUAL by value and have different codes: fault 3. */
    private static final int[][] TWINS = {{0, 1, 2}};
    /** Class 1 without faults, and class 2, which extends it, with twins. */
    private static final int[][] TWINS_BELOW = {{0, 0, 0}, {1, 1, 2}};

    private static final int[] MAKE = {0, 1, 0};
    private static final int[] VALUE = {2, 1, 0};
    private static final int[] ADD = {3, 1, 0};
    private static final int[] LINK = {4, 1, 1};
    private static final int[] DIVIDE = {6, 1, 0};
    private static final int[] NEXT_VALUE = {7, 1, 0};
    private static final int[] COUNT = {8, 1, 0};
    private static final int[] COMPARE = {9, 1, 1};

    private static int[][] of(int[]... rows) {
        return rows;
    }

    /** One for a number becomes the literal 0. */
    private static void numberBecomesZero() {
        Script.run("a number may be 0", world(ALONE, of(MAKE, VALUE, DIVIDE)),
            "0/3 -/3 0/3 => 0 a(0)=o fresh",
            "1/3 x/6 -/3 0/1 => 1 a(0)b(v0)=0 fresh",
            "2/3 x/6 -/3 0/1 0/3 0/1 => 2 a(0)a(0)b(v1)c(v0,v2)!4",
            "shorten 2 => 2 a(0)c(v0,0)!4",
            "statement 2 1 1 => 0",
            "statement 2 1 3 => 1",
            "statement 2 1 4 => 0",
            "statement 2 2 0 => -2",
            "entry 2 2 => 2");
    }

    /** If the sequence then has the same outcome with the same trouble; else it stays. */
    private static void numberThatMustStay() {
        Script.run("a number must not be 0", world(ALONE, of(MAKE, VALUE, ADD), 100),
            "0/3 -/3 3/4 => 0 a(100)=o fresh",
            "1/3 x/6 -/3 0/1 => 1 a(100)b(v0)=100 fresh",
            "2/3 x/6 -/3 0/1 0/3 0/1 => 2 a(100)a(100)b(v1)c(v0,v2)!1",
            "shorten 2 => 3 a(100)b(v0)c(v0,v1)!1");
    }

    private static final int[][] THREE = {{0, 0, 0}, {1, 1, 2}, {1, 0, 0}};

    /** One for an object becomes the least variable that could stand there (if its number is lesser). */
    private static void objectBecomesTheLeast() {
        Script.run("the least, not the next lesser", world(THREE, of(MAKE, new int[] {1, 2, 1}, new int[] {1, 3, 1})),
            "0/3 -/3 1/3 => 0 a(1)=o fresh",
            "1/3 x/6 -/3 0/1 => 1 a(1)b(v0)=o fresh",
            "2/3 x/6 -/3 1/2 => 2 a(1)b(v0)c(v1)=o fresh",
            "1/3 x/6 -/3 2/3 => 3 a(1)b(v0)c(v1)b(v2)?3",
            "shorten 3 => 3 a(0)b(v0)b(v0)?3");
    }

    /** v1 would do as well as v2, but only v0 is tried. */
    private static void onlyTheLeastIsTried() {
        Script.run("the least alone", world(TWINS_BELOW, of(MAKE, new int[] {1, 2, 1}, new int[] {3, 2, 0})),
            "0/3 -/3 0/3 => 0 a(0)=o fresh",
            "1/3 x/6 -/3 0/1 => 1 a(0)b(v0)=o fresh",
            "2/3 x/6 -/3 0/1 -/3 1/3 => 2 a(0)b(v0)c(v1,1)=o fresh",
            "1/3 x/6 -/3 2/3 => 3 a(0)b(v0)c(v1,1)b(v2)?3",
            "shorten 3 => 4 a(0)b(v0)c(v1,0)b(v2)?3",
            "shorten 3 => 3 a(0)b(v0)b(v0)?3");
    }

    /** v0 would give the same fault, but its class IS not that of the argument. */
    private static void leastOfTheRightType() {
        Script.run("a class above", world(TWINS_BELOW, of(MAKE, new int[] {1, 2, 1}, new int[] {1, 2, 2})),
            "0/3 -/3 1/3 => 0 a(1)=o fresh",
            "1/3 x/6 -/3 0/1 => 1 a(1)b(v0)=o fresh",
            "2/3 x/6 -/3 0/1 => 2 a(1)b(v0)c(v1)?3",
            "shorten 2 => 3 a(0)b(v0)c(v1)?3");
        int[][] strangers = {{0, 0, 0}, {0, 0, 0}};
        Script.run("another class, and a number", world(strangers,
            of(new int[] {0, 2, 0}, new int[] {2, 2, 0}, MAKE, ADD), -100),
            "0/4 -/3 3/4 => 0 a(-100)=o fresh",
            "1/4 x/6 -/3 0/1 => 1 a(-100)b(v0)=-100 fresh",
            "2/4 0/3 0/1 => 2 a(-100)b(v0)c(v1)=o fresh",
            "3/4 x/6 -/3 0/1 x/3 2/4 => 3 a(-100)b(v0)c(v1)d(v2,-1)!1",
            "shorten 3 => 4 a(-100)b(v0)c(v1)d(v2,-1)!1");
    }

    private static void leastOfAClassThatExtends() {
        int[][] types = {{0, 1, 2}, {1, 0, 0}};
        Script.run("a class below", world(types, of(new int[] {0, 2, 0}, new int[] {1, 1, 1})),
            "0/2 -/3 1/3 => 0 a(1)=o fresh",
            "1/2 x/6 -/3 0/1 => 1 a(1)b(v0)=o fresh",
            "1/2 x/6 -/3 1/2 => 2 a(1)b(v0)b(v1)?3",
            "shorten 2 => 3 a(0)b(v0)b(v0)?3");
    }

    /** c(v0) would be faulty too, but with fault 4. */
    private static void sameTroubleOrFault() {
        int[][] types = {{0, 1, 2}, {1, 0, 0}};
        Script.run("another fault", world(types, of(MAKE, new int[] {1, 2, 1}, NEXT_VALUE)),
            "0/3 -/3 1/3 => 0 a(1)=o fresh",
            "1/3 x/6 -/3 0/1 => 1 a(1)b(v0)=o fresh",
            "2/3 x/6 -/3 1/2 => 2 a(1)b(v0)c(v1)=1 fresh",
            "0/3 0/3 0/1 => 3 a(1)b(v0)c(v1)a(v2)?3",
            "shorten 3 => 4 a(0)b(v0)c(v1)a(v2)?3",
            "shorten 3 => 2 a(0)a(0)?3");
        // The literal 1 as 0 would be ZERO and not RANGE.
        Script.run("another trouble", world(ALONE, of(MAKE, DIVIDE, ADD), 100),
            "0/3 -/3 3/4 => 0 a(100)=o fresh",
            "1/3 x/6 -/3 0/1 -/3 1/4 => 1 a(100)b(v0,1)=100 fresh",
            "2/3 x/6 -/3 0/1 0/3 0/1 => 2 a(100)a(100)b(v1,1)c(v0,v2)!1",
            "shorten 2 => 3 a(100)b(v0,1)c(v0,v1)!1");
    }

    /** Without b it would be faulty with fault 3, and not troubled with trouble 3. */
    private static void sameOutcome() {
        int[][] types = {{0, 2, 2}, {0, 0, 0}};
        Script.run("the same number, another outcome", world(types, of(MAKE, LINK, new int[] {5, 1, 2})),
            "0/3 -/3 0/3 => 0 a(0)=o fresh",
            "1/3 x/6 -/3 0/1 x/6 x/3 0/1 => 1 a(0)a(0)b(v0,v1)=o fresh",
            "2/3 x/6 -/3 1/2 => 2 a(0)a(0)b(v0,v1)c(v2)!3",
            "shorten 2 => 4 a(0)a(0)b(v0,v1)c(v0)!3");
    }

    /** First its variables, by statements: c(v1) comes before d(v2). */
    private static void variablesByStatements() {
        Script.run("from the first statement on", world(TWINS_BELOW,
            of(MAKE, VALUE, new int[] {0, 2, 0}, new int[] {1, 2, 1})),
            "0/4 -/3 1/3 => 0 a(1)=o fresh",
            "1/4 x/6 -/3 0/1 => 1 a(1)b(v0)=1 fresh",
            "2/4 0/3 0/1 => 2 a(1)b(v0)c(v1)=o fresh",
            "3/4 x/6 -/3 1/2 => 3 a(1)b(v0)c(v1)d(v2)?3",
            "shorten 3 => 2 c(0)d(v0)?3");
    }

    /** And arguments: c(v0,v1) is a loop, c(v1,v0) is none. */
    private static void variablesByArguments() {
        Script.run("from the first argument on", world(ALONE, of(MAKE, new int[] {1, 1, 1}, LINK)),
            "0/3 -/3 1/3 => 0 a(1)=o fresh",
            "1/3 x/6 -/3 0/1 => 1 a(1)b(v0)=o fresh",
            "2/3 x/6 -/3 1/2 x/6 0/3 => 2 a(1)b(v0)c(v1,v1)!2",
            "shorten 2 => 2 a(0)c(v0,v0)!2");
    }

    /** The second argument of d comes before the first one of the last b. */
    private static void variablesByStatementsBeforeArguments() {
        Script.run("all arguments of a statement", world(TWINS_BELOW,
            of(MAKE, new int[] {1, 2, 1}, COUNT, new int[] {3, 2, 0})),
            "0/4 -/3 0/3 => 0 a(0)=o fresh",
            "1/4 x/6 -/3 0/1 => 1 a(0)b(v0)=o fresh",
            "2/4 x/6 -/3 0/2 => 2 a(0)c(v0)=1 fresh",
            "3/4 x/6 -/3 0/1 0/3 0/1 => 3 a(0)b(v0)a(0)c(v2)d(v1,v3)=o fresh",
            "1/4 x/6 -/3 2/3 => 4 a(0)b(v0)a(0)c(v2)d(v1,v3)b(v4)?3",
            "shorten 4 => 3 a(0)b(v0)b(v0)?3");
    }

    /** Then its statements: what is no variable any more may go. */
    private static void statementsAfterVariables() {
        Script.run("variables first", world(TWINS, of(MAKE, VALUE)),
            "0/2 -/3 0/3 => 0 a(0)=o fresh",
            "1/2 x/6 -/3 0/1 => 1 a(0)b(v0)=0 fresh",
            "0/2 0/3 0/1 => 2 a(0)b(v0)a(v1)?3",
            "shorten 2 => 2 a(0)a(0)?3");
    }

    /** Then its literals: with the statement gone, 1 must stay. */
    private static void statementsBeforeLiterals() {
        Script.run("literals last", world(ALONE, of(MAKE, ADD), 100),
            "0/2 -/3 1/4 => 0 a(1)=o fresh",
            "1/2 x/6 -/3 0/1 -/3 1/4 => 1 a(1)b(v0,1)=o fresh",
            "1/2 x/6 -/3 1/2 -/3 3/4 => 2 a(1)b(v0,1)b(v1,100)!1",
            "shorten 2 => 2 a(1)b(v0,100)!1");
    }

    /** From the last of these to the first: a may go once b has gone. */
    private static void statementsFromTheLast() {
        int[][] types = {{0, 0, 0}, {0, 0, 0}};
        Script.run("from the last but one", world(types, of(MAKE, VALUE, new int[] {0, 2, 0}, new int[] {7, 2, 0})),
            "0/4 -/3 1/3 => 0 a(1)=o fresh",
            "1/4 x/6 -/3 0/1 => 1 a(1)b(v0)=1 fresh",
            "2/4 0/3 0/1 => 2 a(1)b(v0)c(v1)=o fresh",
            "3/4 x/6 -/3 0/1 => 3 a(1)b(v0)c(v1)d(v2)?4",
            "shorten 3 => 2 c(0)d(v0)?4");
    }

    /** The numbers of later ones and of variables fall; those of earlier variables do not. */
    private static void laterNumbersFall() {
        Script.run("one taken away in the middle", world(TWINS, of(MAKE, LINK, COMPARE)),
            "0/3 -/3 1/3 => 0 a(1)=o fresh",
            "0/3 -/3 0/3 => 1 a(0)=o fresh",
            "1/3 x/6 -/3 1/2 x/6 x/3 0/2 => 2 a(0)a(1)b(v0,v1)=o fresh",
            "2/3 x/6 -/3 0/3 x/6 x/3 2/3 => 3 a(1)a(0)a(1)b(v1,v2)c(v0,v3)?3",
            "shorten 3 => 3 a(1)a(1)c(v0,v0)?3");
        Script.run("one taken away before a variable", world(ALONE, of(MAKE, COUNT, ADD), 100),
            "0/3 -/3 3/4 => 0 a(100)=o fresh",
            "1/3 x/6 -/3 0/1 => 1 a(100)b(v0)=1 fresh",
            "2/3 x/6 -/3 0/1 0/3 0/1 => 2 a(100)a(100)b(v1)c(v0,v2)!1",
            "shorten 2 => 3 a(100)b(v0)c(v0,v1)!1",
            "statement 2 2 2 => 0",
            "statement 2 2 4 => 1");
    }

    /** Then its literals but 0, by statements: -1 and the first 1 become 0, the last 1 may not then. */
    private static void literalsByStatements() {
        Script.run("from the first literal on", world(ALONE, of(MAKE, ADD), 100),
            "0/2 -/3 2/4 => 0 a(-1)=o fresh",
            "1/2 x/6 -/3 0/1 -/3 3/4 => 1 a(-1)b(v0,100)=o fresh",
            "1/2 x/6 -/3 1/2 -/3 1/4 => 2 a(-1)b(v0,100)b(v1,1)=o fresh",
            "1/2 x/6 -/3 2/3 -/3 1/4 => 3 a(-1)b(v0,100)b(v1,1)b(v2,1)!1",
            "shorten 3 => 4 a(0)b(v0,100)b(v0,0)b(v0,1)!1");
    }

    /** The second argument of the first b comes before the first one of the later a. */
    private static void literalsByStatementsBeforeArguments() {
        Script.run("all literals of a statement", world(ALONE, of(MAKE, ADD), -2),
            "from 36196000",
            "0/2 -/3 3/4 => 0 a(-2)=o fresh",
            "1/2 x/6 -/3 0/1 -/3 1/4 => 1 a(-2)b(v0,1)=o fresh",
            "literal 2 => 4",
            "0/2 -/3 4/5 => 2 a(2)=o fresh",
            "operation 2 1 0 => 2",
            "2/3 x/6 -/3 2/3 => 3 a(2)c(v0)=2 fresh",
            "1/3 x/6 -/3 1/3 0/3 0/1 => 4 a(-2)b(v0,1)a(2)c(v2)b(v1,v3)=o fresh",
            "literal 100 => 5",
            "1/3 x/6 -/3 3/4 x/3 5/6 => 5 a(-2)b(v0,1)a(2)c(v2)b(v1,v3)b(v4,100)!1",
            "shorten 5 => 6 a(0)b(v0,0)a(2)c(v2)b(v0,v3)b(v0,100)!1");
    }

    /** The trouble may come from an earlier statement then, so that the last literal is free. */
    private static void literalOfTheLastStatement() {
        Script.run("the last literal", world(ALONE, of(MAKE, ADD), 101),
            "0/2 -/3 2/4 => 0 a(-1)=o fresh",
            "1/2 x/6 -/3 0/1 -/3 3/4 => 1 a(-1)b(v0,101)=o fresh",
            "1/2 x/6 -/3 1/2 -/3 1/4 => 2 a(-1)b(v0,101)b(v1,1)!1",
            "shorten 2 => 3 a(0)b(v0,101)b(v0,0)!1");
    }

    /** Each is tried once: what a later change makes possible waits for the next call. */
    private static void onePassOnly() {
        Script.run("three calls", world(TWINS, of(MAKE, VALUE)),
            "0/2 -/3 1/3 => 0 a(1)=o fresh",
            "1/2 x/6 -/3 0/1 => 1 a(1)b(v0)=1 fresh",
            "0/2 0/3 0/1 => 2 a(1)b(v0)a(v1)?3",
            "shorten 2 => 3 a(0)b(v0)a(v1)?3",
            "shorten 2 => 2 a(0)a(0)?3",
            "shorten 2 => 2 a(0)a(0)?3");
    }

    /** The last statement is never taken away. */
    private static void oneStatement() {
        Script.run("a troubled one", world(ALONE, of(MAKE), 101),
            "0/1 -/3 3/4 => 0 a(101)!1",
            "shorten 0 => 1 a(101)!1");
        Script.run("a faulty one", world(new int[][] {{0, 4, 0}}, of(MAKE)),
            "0/1 -/3 2/3 => 0 a(-1)?1",
            "shorten 0 => 1 a(0)?1",
            "shorten 0 => 1 a(0)?1");
    }

    /** Ten statements, of which none may go: the value is 0, -1 and -101 at last, by b. */
    private static void tenStatements() {
        Script.run("ten statements stay", world(ALONE, of(MAKE, ADD), 100, -100),
            "from 214549000",
            "0/2 -/3 3/5 => 0 a(100)=o fresh",
            "1/2 x/6 -/3 0/1 -/3 4/5 => 1 a(100)b(v0,-100)=o fresh",
            "operation 6 1 0 => 2",
            "2/3 x/6 -/3 0/2 -/3 2/5 => 2 a(100)c(v0,-1)=-100 fresh",
            "2/3 x/6 -/3 0/2 0/3 0/1 => 3 a(100)a(100)c(v1,-1)c(v0,v2)=-1 fresh",
            "1/3 x/6 -/3 1/2 0/3 1/2 => 4 a(100)b(v0,-100)a(100)a(100)c(v3,-1)c(v2,v4)b(v1,v5)=o fresh",
            "1/3 x/6 -/3 2/3 0/3 0/2 => 5 "
                + "a(100)b(v0,-100)a(100)a(100)c(v3,-1)c(v2,v4)b(v1,v5)a(100)c(v7,-1)b(v6,v8)!1",
            "shorten 5 => 10 a(0)b(v0,0)a(100)a(100)c(v3,-1)c(v2,v4)b(v0,v5)a(100)c(v7,-1)b(v0,v8)!1",
            "statement 5 9 0 => 1",
            "statement 5 10 0 => -2");
    }

    /** Null is neither a variable nor a literal. */
    private static void nullStays() {
        Script.run("null", world(new int[][] {{0, 2, 2}}, of(MAKE, new int[] {1, 1, 1}, LINK)),
            "0/3 -/3 1/3 => 0 a(1)=o fresh",
            "1/3 x/6 -/3 0/1 => 1 a(1)b(v0)=o fresh",
            "2/3 x/6 -/3 1/2 0/6 => 2 a(1)b(v0)c(v1,n)?3",
            "shorten 2 => 3 a(0)b(v0)c(v1,n)?3",
            "statement 2 2 3 => 2",
            "statement 2 2 4 => 0");
    }

    private static void everyTroubleAndFault() {
        Script.run("ZERO and fault 4", world(ALONE, of(MAKE, DIVIDE, NEXT_VALUE)),
            "0/3 -/3 1/3 => 0 a(1)=o fresh",
            "1/3 x/6 -/3 0/1 -/3 0/3 => 1 a(1)b(v0,0)!4",
            "2/3 x/6 -/3 0/1 => 2 a(1)c(v0)?4",
            "shorten 1 => 2 a(0)b(v0,0)!4",
            "shorten 2 => 2 a(0)c(v0)?4");
        Script.run("CAST", world(new int[][] {{0, 0, 0}, {0, 0, 0}},
            of(MAKE, new int[] {1, 1, 1}, new int[] {5, 1, 2})),
            "0/3 -/3 1/3 => 0 a(1)=o fresh",
            "1/3 x/6 -/3 0/1 => 1 a(1)b(v0)=o fresh",
            "1/3 x/6 -/3 1/2 => 2 a(1)b(v0)b(v1)=o fresh",
            "2/3 x/6 -/3 2/3 => 3 a(1)b(v0)b(v1)c(v2)!3",
            "shorten 3 => 3 a(0)b(v0)c(v1)!3");
        Script.run("fault 2", world(new int[][] {{0, 3, 0}, {1, 1, 0}}, of(MAKE, new int[] {0, 2, 0}, COMPARE)),
            "0/3 -/3 1/3 => 0 a(1)=o fresh",
            "1/3 -/3 1/3 => 1 b(1)=o fresh",
            "2/3 x/6 -/3 0/2 x/6 x/3 1/2 => 2 a(1)b(1)c(v0,v1)?2",
            "shorten 2 => 3 a(1)b(1)c(v0,v0)?2");
    }

    /** Two entries may have the same sequence then. */
    private static void twoEntriesAlike() {
        Script.run("two alike", world(new int[][] {{0, 4, 0}}, of(MAKE)),
            "0/1 -/3 1/3 => 0 a(1)?1",
            "0/1 -/3 2/3 => 1 a(-1)?1",
            "shorten 0 => 1 a(0)?1",
            "shorten 1 => 1 a(0)?1",
            "0/1 -/3 0/3 => AGAIN",
            "0/1 -/3 1/3 => 2 a(1)?1");
    }

    /** All else of it stays: also the number that it gave, which it would not give again. */
    private static void allElseStays() {
        Script.run("the number stays", world(TWINS, of(MAKE, LINK, COMPARE)),
            "0/3 -/3 1/3 => 0 a(1)=o fresh",
            "0/3 -/3 0/3 => 1 a(0)=o fresh",
            "1/3 x/6 -/3 1/2 x/6 x/3 0/2 => 2 a(0)a(1)b(v0,v1)=o fresh",
            "2/3 x/6 -/3 0/3 x/6 x/3 2/3 => 3 a(1)a(0)a(1)b(v1,v2)c(v0,v3)?3",
            "entry 3 4 => 0",
            "shorten 3 => 3 a(1)a(1)c(v0,v0)?3",
            "entry 3 0 => 3",
            "entry 3 1 => 3",
            "entry 3 2 => 3",
            "entry 3 3 => 0",
            "entry 3 4 => 0");
        for (int state = 0; state < 60; state++) {
            Caller x = large(state);
            x.seek(20);
            x.seek(20);
            for (int e = 0; e < x.entries(); e++) {
                otherEntriesStay(x, e);
            }
        }
    }

    private static void otherEntriesStay(Caller x, int e) {
        int length = x.entry(e, 2);
        String before = without(x, e);
        int left = x.shorten(e);
        Check.due("never longer", left <= length, true);
        Check.due("all but the sequence of " + e, without(x, e), before);
        Check.due("the end of " + Check.textOf(x, e), Check.draftAll(x, Check.textOf(x, e)), true);
        Check.due("replay of " + Check.textOf(x, e), x.replay(), 1);
        x.draft(0);
    }

    /** All that is seen, but for the sequence of one entry. */
    private static String without(Caller x, int e) {
        String[] parts = Probe.look(x).split(" ; ");
        parts[e + 1] = x.entry(e, 0) + " " + x.entry(e, 1) + " " + x.entry(e, 3) + " " + x.entry(e, 4);
        return String.join(" ; ", parts);
    }

    /** -1, refused, if there is no such entry, or it is neither troubled nor faulty. */
    private static void refusals() {
        Check.due("shorten(0) of an empty book", large(5).shorten(0), -1);
        int[] outcomes = new int[4];
        for (int state = 0; state < 5; state++) {
            Caller x = large(state);
            steps(x);
            String before = Probe.look(x);
            for (int e : new int[] {Integer.MIN_VALUE, -2, -1, x.entries(), x.entries() + 1, 40, Integer.MAX_VALUE}) {
                Check.due("shorten(" + e + ")", x.shorten(e), -1);
                Check.due("all then", Probe.look(x), before);
            }
            for (int e = 0; e < x.entries(); e++) {
                outcomes[x.entry(e, 0)]++;
                if (x.entry(e, 0) < 2) {
                    Check.due("shorten of " + Check.textOf(x, e), x.shorten(e), -1);
                    Check.due("all then", Probe.look(x), before);
                }
            }
        }
        for (int outcome : outcomes) {
            Check.due("all outcomes were seen", outcome > 0, true);
        }
        for (int e : new int[] {-1, 0, 1, 2, 3, 4, 5, 40}) {
            Probe.unchanged("shorten(" + e + ") of good entries", y -> {
                world(ALONE, of(MAKE, ADD)).make(y);
                y.step();
                y.step();
                y.step();
                y.step();
            }, y -> y.shorten(e));
        }
    }

    private static void steps(Caller x) {
        for (int i = 0; i < 60; i++) {
            x.step();
        }
    }

    private static Caller large(int state) {
        Caller x = new Caller(state);
        world(new int[][] {{0, 1, 2}, {1, 1, 0}},
            of(MAKE, ADD, VALUE, LINK, DIVIDE, new int[] {0, 2, 0}, NEXT_VALUE), 100).make(x);
        return x;
    }

    private static void worldAtLarge() {
        byHand(24, 13, "a(-1)b(v0,1)b(v1,100)c(v2)a(v3)?3", "a(0)c(v0)a(v1)?3");
        byHand(23, 22, "f(100)f(100)d(v0,v1)b(v2,1)!1", "f(100)b(v0,1)!1");
        byHand(2, 32, "a(0)a(100)d(v0,v1)a(0)d(v2,v3)?3", "a(0)a(0)d(v0,v1)?3");
        byHand(0, 18, "f(-1)b(v0,-1)a(0)c(v2)e(v1,v3)!4", "f(0)e(v0,0)!4");
        byHand(7, 30, "a(-1)e(v0,1)f(v1)g(v2)?4", "a(0)g(v0)?4");
    }

    /** Every finding is shortened as it comes, so that later steps meet shortened entries. */
    private static void byHand(int state, int entry, String before, String after) {
        Caller x = large(state);
        for (int i = 0; i < 200; i++) {
            int e = x.step();
            if (e == entry) {
                Check.due("text of " + entry + " before", Check.textOf(x, e), before);
            }
            if (e >= 0 && x.entry(e, 0) >= 2) {
                int left = x.shorten(e);
                Check.due("statements left", left, x.entry(e, 2));
            }
        }
        Check.due("text of " + entry + " after", Check.textOf(x, entry), after);
    }
}
