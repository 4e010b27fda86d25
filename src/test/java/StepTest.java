/** Promise 5: step, case by case, with every draw of RANDOM that it makes; and the outcome of its entries. */
final class StepTest {
    public static void main(String[] args) {
        randomWrapsAround();
        randomOfOneIsDrawn();
        noneDrawsNothing();
        fullDrawsNothing();
        operationIsDrawn();
        numberIsLiteralOrTaken();
        onlyFreshNumbersAreTaken();
        numberIsCountedAmongFresh();
        objectIsNull();
        sameVariableAgain();
        sameVariableMustFit();
        lackOfObjects();
        onlyFreshObjectsAreTaken();
        subclassesAreTaken();
        variablesGrow();
        nineStatementsAreTaken();
        tenAreTooLong();
        againWithJustTheseStatements();
        againAfterShorten();
        invalidIsNotEntered();
        staleByShape();
        shapesAreToldApart();
        shapesOfTenObjects();
        nullIsOneShapeForAllTypes();
        shapeOfFreshAlone();
        troublesAndFaults();
        Check.end();
    }

    private static void makers(Caller x, int... classes) {
        for (int c : classes) {
            x.operation(0, c, 0);
        }
    }

    /** Objects of one class that are equal to themselves alone, and these operations on them. */
    private static Script.World plain(int... kinds) {
        return x -> {
            x.type(0, 0, 0);
            for (int kind : kinds) {
                x.operation(kind, 1, 1);
            }
        };
    }

    /** The STATE (an int) becomes 1103515245 * STATE + 12345; the answer is (STATE >>> 16) % n. */
    private static void randomWrapsAround() {
        // Worked out apart, in numbers without a bound: the state behind three draws, and the literal then.
        int[][] rows = {{0, -1492899873, 0}, {1, 662824084, 0}, {-1, 646343466, 1}, {2147483647, -1501140182, 0},
            {-2147483648, 654583775, 1}, {12345, -698016724, 0}, {-7, 596901612, 2}};
        for (int[] row : rows) {
            Caller x = new Caller(row[0]);
            plain(0).make(x);
            Check.due("step from " + row[0], x.step(), 0);
            Check.due("state after a step from " + row[0], x.state(), row[1]);
            Check.due("literal of a step from " + row[0], x.statement(0, 0, 2), new int[] {0, 1, -1}[row[2]]);
        }
    }

    /** RANDOM of n, also of 1. */
    private static void randomOfOneIsDrawn() {
        Script.run("one operation and one to take", plain(0),
            "0/1 -/3 1/3 => 0 a(1)=o fresh",
            "operation 2 1 0 => 1",
            "1/2 x/6 -/3 0/1 => 1 a(1)b(v0)=1 fresh",
            "0/2 0/3 0/1 => 2 a(1)b(v0)a(v1)=o stale");
    }

    /** NONE if there is no operation; with NONE RANDOM is not drawn at all. */
    private static void noneDrawsNothing() {
        Script.run("no operation", x -> { },
            "=> NONE",
            "type 0 0 0 => 1",
            "=> NONE",
            "literal 5 => 3",
            "operation 0 2 0 => -1",
            "=> NONE",
            "operation 0 1 0 => 0",
            "0/1 -/3 3/4 => 0 a(5)=o fresh");
    }

    /** The BOOK has at most 40 ENTRIES; FULL if it is so, and RANDOM is not drawn at all. */
    private static void fullDrawsNothing() {
        for (int state = -20; state < 20; state++) {
            Caller x = new Caller(state);
            x.type(0, 0, 0);
            makers(x, 1, 1, 1, 1, 1, 1, 1, 1, 1, 1);
            for (int v = 2; v < 7; v++) {
                x.literal(v);
            }
            int steps = 0;
            for (int made = 0; made < 40 && steps < 400; steps++) {
                int answer = x.step();
                Check.due("step " + steps + " from " + state, answer, answer < 0 ? CallExplorer.AGAIN : made);
                made += answer < 0 ? 0 : 1;
            }
            Check.due("entries then", x.entries(), 40);
            Check.due("outcome of entry 39", x.entry(39, 0) < 2, true);
            Check.due("state then", x.state(), Check.drawn(state, 3 * steps));
            String before = Probe.look(x);
            Check.due("step on a full book", x.step(), CallExplorer.FULL);
            Check.due("step on a full book again", x.step(), CallExplorer.FULL);
            Check.due("all else then", Probe.look(x), before);
            Check.due("entry(40, 0)", x.entry(40, 0), -1);
        }
    }

    /** The operation with the number RANDOM of how many there are. */
    private static void operationIsDrawn() {
        Script.run("ten operations", plain(0, 0, 0, 0, 0, 0, 0, 0, 0, 0),
            "9/10 -/3 1/3 => 0 j(1)=o fresh",
            "0/10 -/3 1/3 => 1 a(1)=o stale",
            "8/10 -/3 1/3 => 2 i(1)=o stale");
    }

    /** RANDOM of 3; if that is 0 and there are fresh entries of type 0: taken; otherwise the literal. */
    private static void numberIsLiteralOrTaken() {
        Script.run("numbers", plain(0, 2),
            "0/2 0/3 1/3 => 0 a(1)=o fresh",
            "1/2 x/6 -/3 0/1 => 1 a(1)b(v0)=1 fresh",
            "0/2 0/3 0/1 => 2 a(1)b(v0)a(v1)=o stale",
            "0/2 1/3 2/3 => 3 a(-1)=o fresh",
            "0/2 2/3 0/3 => 4 a(0)=o fresh");
        Script.run("a number as second argument", plain(0, 3, 8),
            "0/3 -/3 1/3 => 0 a(1)=o fresh",
            "1/3 x/6 -/3 0/1 0/3 2/3 => 1 a(1)b(v0,-1)=o fresh",
            "2/3 x/6 -/3 0/2 => 2 a(1)c(v0)=1 fresh",
            "1/3 x/6 -/3 0/2 0/3 0/1 => 3 a(1)a(1)c(v1)b(v0,v2)=o fresh");
    }

    /** Troubled and faulty entries of type 0 are not taken for a number. */
    private static void onlyFreshNumbersAreTaken() {
        Script.run("a troubled number", plain(0, 6),
            "0/2 -/3 1/3 => 0 a(1)=o fresh",
            "1/2 x/6 -/3 0/1 -/3 0/3 => 1 a(1)b(v0,0)!4",
            "0/2 0/3 2/3 => 2 a(-1)=o fresh");
        Script.run("a faulty number", plain(0, 7),
            "0/2 -/3 1/3 => 0 a(1)=o fresh",
            "1/2 x/6 -/3 0/1 => 1 a(1)b(v0)?4",
            "0/2 0/3 2/3 => 2 a(-1)=o fresh");
    }

    /** The one with the number RANDOM of how many these are, among them, counted from 0. */
    private static void numberIsCountedAmongFresh() {
        Script.run("stale numbers between", plain(0, 2, 2),
            "0/3 -/3 1/3 => 0 a(1)=o fresh",
            "1/3 x/6 -/3 0/1 => 1 a(1)b(v0)=1 fresh",
            "2/3 x/6 -/3 0/1 => 2 a(1)c(v0)=1 stale",
            "0/3 x/3 0/3 => 3 a(0)=o fresh",
            "1/3 x/6 -/3 1/2 => 4 a(0)b(v0)=0 fresh",
            "0/3 0/3 1/2 => 5 a(0)b(v0)a(v1)=o stale",
            "0/3 0/3 0/2 => 6 a(1)b(v0)a(v1)=o stale");
    }

    /** For a class t: RANDOM of 6; if that is 0: null. */
    private static void objectIsNull() {
        Script.run("null as first argument", plain(0, 2),
            "1/2 0/6 => INVALID",
            "0/2 -/3 1/3 => 0 a(1)=o fresh",
            "1/2 0/6 => INVALID",
            "1/2 5/6 -/3 0/1 => 1 a(1)b(v0)=1 fresh",
            "1/2 1/6 -/3 0/1 => AGAIN");
        Script.run("null as second argument", plain(0, 4),
            "0/2 -/3 1/3 => 0 a(1)=o fresh",
            "1/2 x/6 -/3 0/1 0/6 => 1 a(1)b(v0,n)=o stale",
            "1/2 0/6 0/6 => INVALID");
    }

    /** Otherwise RANDOM of 3; if that is 0 and the first argument has been chosen, as a variable: the same. */
    private static void sameVariableAgain() {
        Script.run("the same variable", plain(0, 9),
            "0/2 -/3 1/3 => 0 a(1)=o fresh",
            "1/2 x/6 0/3 0/1 x/6 0/3 => 1 a(1)b(v0,v0)=1 fresh",
            "1/2 x/6 0/3 0/1 x/6 1/3 0/1 => 2 a(1)a(1)b(v0,v1)=0 fresh",
            "1/2 x/6 1/3 0/1 x/6 2/3 0/1 => AGAIN",
            "1/2 0/6 x/6 0/3 0/1 => INVALID");
    }

    /** A variable whose type is a class that IS t. */
    private static void sameVariableMustFit() {
        Script.World world = x -> {
            x.type(0, 0, 0);
            x.type(1, 0, 0);
            makers(x, 1, 2);
            x.operation(9, 1, 2);
        };
        Script.run("the first argument does not fit", world,
            "0/3 -/3 1/3 => 0 a(1)=o fresh",
            "2/3 x/6 -/3 0/1 x/6 0/3 => LACK",
            "1/3 -/3 1/3 => 1 b(1)=o fresh",
            "2/3 x/6 -/3 0/2 x/6 0/3 0/1 => 2 a(1)b(1)c(v0,v1)=0 fresh");
        Script.run("the first argument fits", world,
            "1/3 -/3 1/3 => 0 b(1)=o fresh",
            "2/3 x/6 -/3 0/1 x/6 0/3 => 1 b(1)c(v0,v0)=1 fresh");
        Script.run("the first argument is of a class that extends t", x -> {
            x.type(0, 0, 0);
            x.type(1, 0, 0);
            makers(x, 1, 2);
            x.operation(9, 2, 1);
        },
            "1/3 -/3 1/3 => 0 b(1)=o fresh",
            "0/3 -/3 1/3 => 1 a(1)=o fresh",
            "2/3 x/6 -/3 0/1 x/6 0/3 => 2 b(1)c(v0,v0)=1 fresh",
            "2/3 x/6 -/3 0/1 x/6 x/3 1/2 => 3 b(1)a(1)c(v0,v1)=0 fresh");
    }

    /** LACK if there is none. */
    private static void lackOfObjects() {
        Script.run("nothing to take", plain(2),
            "0/1 x/6 -/3 => LACK",
            "0/1 0/6 => INVALID",
            "0/1 x/6 0/3 => LACK");
        Script.run("only another class, and one that t extends, to take", x -> {
            x.type(0, 0, 0);
            x.type(1, 0, 0);
            x.type(0, 0, 0);
            makers(x, 1, 3);
            x.operation(2, 2, 0);
        },
            "0/3 -/3 1/3 => 0 a(1)=o fresh",
            "1/3 -/3 1/3 => 1 b(1)=o fresh",
            "2/3 x/6 -/3 => LACK");
        Script.run("only a number to take", x -> {
            x.type(0, 0, 0);
            x.type(0, 0, 0);
            makers(x, 1);
            x.operation(2, 1, 0);
            x.operation(2, 2, 0);
        },
            "0/3 -/3 1/3 => 0 a(1)=o fresh",
            "1/3 x/6 -/3 0/1 => 1 a(1)b(v0)=1 fresh",
            "2/3 x/6 -/3 => LACK");
        Script.run("nothing to take as second argument", x -> {
            x.type(0, 0, 0);
            x.type(0, 0, 0);
            makers(x, 1);
            x.operation(4, 1, 2);
        },
            "0/2 -/3 1/3 => 0 a(1)=o fresh",
            "1/2 x/6 -/3 0/1 x/6 x/3 => LACK",
            "1/2 x/6 -/3 0/1 x/6 0/3 => LACK",
            "1/2 0/6 x/6 -/3 => LACK");
    }

    /** Stale, troubled and faulty entries are not taken for an object. */
    private static void onlyFreshObjectsAreTaken() {
        Script.run("a troubled object", x -> {
            plain(0, 2).make(x);
            x.literal(101);
        },
            "0/2 -/3 3/4 => 0 a(101)!1",
            "1/2 x/6 -/3 => LACK");
        Script.run("a faulty object", x -> {
            x.type(0, 4, 0);
            makers(x, 1);
            x.operation(2, 1, 0);
        },
            "0/2 -/3 0/3 => 0 a(0)?1",
            "1/2 x/6 -/3 => LACK");
        Script.run("a stale object between", plain(0, 0, 2),
            "0/3 -/3 1/3 => 0 a(1)=o fresh",
            "1/3 -/3 1/3 => 1 b(1)=o stale",
            "0/3 -/3 2/3 => 2 a(-1)=o fresh",
            "2/3 x/6 -/3 1/2 => 3 a(-1)c(v0)=-1 fresh",
            "2/3 x/6 -/3 0/2 => 4 a(1)c(v0)=1 fresh");
    }

    /** One of the fresh entries whose type is a class that IS t, likewise. */
    private static void subclassesAreTaken() {
        Script.run("four classes in a line", x -> {
            x.type(0, 0, 0);
            x.type(1, 0, 0);
            x.type(2, 0, 0);
            x.type(3, 0, 0);
            makers(x, 4, 1);
            x.operation(2, 1, 0);
            x.operation(2, 2, 0);
        },
            "0/4 -/3 1/3 => 0 a(1)=o fresh",
            "1/4 -/3 0/3 => 1 b(0)=o fresh",
            "2/4 x/6 -/3 0/2 => 2 a(1)c(v0)=1 fresh",
            "2/4 x/6 -/3 1/2 => 3 b(0)c(v0)=0 fresh",
            "3/4 x/6 -/3 0/1 => 4 a(1)d(v0)=1 stale");
        // An entry's type is that of its last operation, not the class of the object it gives.
        Script.run("the type is the operation's", x -> {
            x.type(0, 0, 0);
            x.type(1, 0, 0);
            makers(x, 2);
            x.operation(3, 1, 0);
            x.operation(2, 2, 0);
        },
            "0/3 -/3 1/3 => 0 a(1)=o fresh",
            "1/3 x/6 -/3 0/1 -/3 1/3 => 1 a(1)b(v0,1)=o fresh",
            "2/3 x/6 -/3 0/1 => 2 a(1)c(v0)=1 fresh");
    }

    /** Its statements are put behind, the numbers of their variables grow by how many it had. */
    private static void variablesGrow() {
        Script.run("entries of more than one statement", plain(0, 1, 9),
            "0/3 -/3 1/3 => 0 a(1)=o fresh",
            "1/3 x/6 -/3 0/1 => 1 a(1)b(v0)=o fresh",
            "1/3 x/6 -/3 1/2 => 2 a(1)b(v0)b(v1)=o fresh",
            "2/3 x/6 -/3 1/3 x/6 x/3 2/3 => 3 a(1)b(v0)a(1)b(v2)b(v3)c(v1,v4)=0 fresh",
            "2/3 x/6 -/3 2/3 x/6 0/3 => 4 a(1)b(v0)b(v1)c(v2,v2)=1 fresh");
    }

    private static final String[] UP_TO_EIGHT = {
        "0/3 -/3 1/3 => 0 a(1)=o fresh",
        "2/3 x/6 -/3 0/1 x/6 x/3 0/1 => 1 a(1)a(1)c(v0,v1)=o fresh",
        "2/3 x/6 -/3 1/2 x/6 x/3 1/2 => 2 a(1)a(1)c(v0,v1)a(1)a(1)c(v3,v4)c(v2,v5)=o fresh",
        "1/3 x/6 -/3 2/3 => 3 a(1)a(1)c(v0,v1)a(1)a(1)c(v3,v4)c(v2,v5)b(v6)=o fresh",
    };

    private static void withEight(String name, String... rows) {
        String[] all = new String[UP_TO_EIGHT.length + rows.length];
        System.arraycopy(UP_TO_EIGHT, 0, all, 0, UP_TO_EIGHT.length);
        System.arraycopy(rows, 0, all, UP_TO_EIGHT.length, rows.length);
        Script.run(name, plain(0, 1, 4), all);
    }

    /** Nine statements may be taken, so that an entry has ten. */
    private static void nineStatementsAreTaken() {
        String eight = "a(1)a(1)c(v0,v1)a(1)a(1)c(v3,v4)c(v2,v5)b(v6)";
        withEight("eight and one", "2/3 x/6 -/3 3/4 x/6 x/3 0/4 => 4 " + eight + "a(1)c(v7,v8)=o stale");
        withEight("seven and one", "2/3 x/6 -/3 2/4 x/6 x/3 0/4 => 4 "
            + "a(1)a(1)c(v0,v1)a(1)a(1)c(v3,v4)c(v2,v5)a(1)c(v6,v7)=o stale");
        withEight("nine alone",
            "1/3 x/6 -/3 3/4 => 4 " + eight + "b(v7)=o fresh",
            "1/3 x/6 -/3 4/5 => 5 " + eight + "b(v7)b(v8)=o fresh");
        withEight("nine and the same variable",
            "1/3 x/6 -/3 3/4 => 4 " + eight + "b(v7)=o fresh",
            "2/3 x/6 -/3 4/5 x/6 0/3 => 5 " + eight + "b(v7)c(v8,v8)!2");
        withEight("nine and null",
            "from 32255000",
            "1/3 x/6 -/3 3/4 => 4 " + eight + "b(v7)=o fresh",
            "2/3 x/6 -/3 4/5 0/6 => 5 " + eight + "b(v7)c(v8,n)=o stale");
    }

    /** LONG as soon as the sequence has more than nine statements: nothing is drawn then. */
    private static void tenAreTooLong() {
        String nine = "a(1)a(1)c(v0,v1)a(1)a(1)c(v3,v4)c(v2,v5)b(v6)b(v7)";
        withEight("seven and three", "2/3 x/6 -/3 2/4 x/6 x/3 1/4 => LONG");
        withEight("three and seven", "2/3 x/6 -/3 1/4 x/6 x/3 2/4 => LONG");
        withEight("eight and eight", "2/3 x/6 -/3 3/4 x/6 x/3 3/4 => LONG");
        withEight("nine and one",
            "from 34716000",
            "1/3 x/6 -/3 3/4 => 4 " + nine + "=o fresh",
            "2/3 x/6 -/3 4/5 x/6 x/3 0/5 => LONG");
        for (String operation : new String[] {"1", "2"}) {
            withEight("ten alone, for operation " + operation,
                operation.equals("1") ? "from 137229000" : "from 125976000",
                "1/3 x/6 -/3 3/4 => 4 " + nine + "=o fresh",
                "1/3 x/6 -/3 4/5 => 5 " + nine + "b(v8)=o fresh",
                operation + "/3 x/6 -/3 5/6 => LONG");
        }
    }

    /** AGAIN if the book has an entry with just these statements. */
    private static void againWithJustTheseStatements() {
        Script.run("calls again", x -> {
            plain(0, 8, 9).make(x);
            x.literal(101);
        },
            "0/3 -/3 1/4 => 0 a(1)=o fresh",
            "0/3 -/3 1/4 => AGAIN",
            "1/3 x/6 -/3 0/1 => 1 a(1)b(v0)=1 fresh",
            "1/3 x/6 -/3 0/1 => AGAIN",
            "2/3 x/6 -/3 0/1 x/6 0/3 => 2 a(1)c(v0,v0)=1 stale",
            "2/3 x/6 -/3 0/1 x/6 0/3 => AGAIN",
            "2/3 x/6 -/3 0/1 0/6 => 3 a(1)c(v0,n)=0 fresh");
        Script.run("troubled and faulty ones again", x -> {
            x.type(0, 4, 0);
            makers(x, 1);
            x.literal(101);
        },
            "0/1 -/3 3/4 => 0 a(101)!1",
            "0/1 -/3 0/4 => 1 a(0)?1",
            "0/1 -/3 3/4 => AGAIN",
            "0/1 -/3 0/4 => AGAIN");
        // Two statements more or less, or one literal, variable, null or operation else.
        Script.run("nearly the same", plain(0, 0, 9),
            "0/3 -/3 0/3 => 0 a(0)=o fresh",
            "1/3 -/3 0/3 => 1 b(0)=o stale",
            "2/3 x/6 -/3 0/1 0/6 => 2 a(0)c(v0,n)=0 fresh",
            "2/3 x/6 -/3 0/1 x/6 0/3 => 3 a(0)c(v0,v0)=1 fresh",
            "2/3 x/6 -/3 0/1 x/6 x/3 0/1 => 4 a(0)a(0)c(v0,v1)=0 stale");
    }

    /** AGAIN is told of a shortened entry by what is left of it, and no longer by what it was. */
    private static void againAfterShorten() {
        Script.run("shortened", x -> {
            plain(0, 3).make(x);
            x.literal(100);
        },
            "0/2 -/3 3/4 => 0 a(100)=o fresh",
            "1/2 x/6 -/3 0/1 -/3 0/4 => 1 a(100)b(v0,0)=o stale",
            "0/2 -/3 1/4 => 2 a(1)=o fresh",
            "1/2 x/6 -/3 1/2 -/3 3/4 => 3 a(1)b(v0,100)!1",
            "1/2 x/6 -/3 1/2 -/3 3/4 => AGAIN",
            "shorten 3 => 2 a(1)b(v0,100)!1",
            "1/2 x/6 -/3 1/2 -/3 3/4 => AGAIN");
        Script.run("what it was may come again", plain(0, 2, 6),
            "0/3 -/3 0/3 => 0 a(0)=o fresh",
            "1/3 x/6 -/3 0/1 => 1 a(0)b(v0)=0 fresh",
            "2/3 x/6 -/3 0/1 0/3 0/1 => 2 a(0)a(0)b(v1)c(v0,v2)!4",
            "2/3 x/6 -/3 0/1 0/3 0/1 => AGAIN",
            "shorten 2 => 2 a(0)c(v0,0)!4",
            "2/3 x/6 -/3 0/1 x/3 0/3 => AGAIN",
            "2/3 x/6 -/3 0/1 0/3 0/1 => 3 a(0)a(0)b(v1)c(v0,v2)!4",
            "shorten 3 => 2 a(0)c(v0,0)!4");
    }

    /** INVALID if it is so; else it is a new entry. */
    private static void invalidIsNotEntered() {
        Script.run("the value of a variable is null", plain(0, 5),
            "0/2 -/3 1/3 => 0 a(1)=o fresh",
            "1/2 x/6 -/3 0/1 => 1 a(1)b(v0)=n fresh",
            "1/2 x/6 -/3 1/2 => INVALID",
            "1/2 x/6 -/3 1/2 => INVALID",
            "1/2 0/6 => INVALID",
            "0/2 -/3 0/3 => 2 a(0)=o fresh");
        // A null that is no trouble is no matter.
        Script.run("a null as y", plain(0, 5, 9),
            "0/3 -/3 1/3 => 0 a(1)=o fresh",
            "1/3 x/6 -/3 0/1 => 1 a(1)b(v0)=n fresh",
            "2/3 x/6 -/3 0/2 x/6 x/3 1/2 => 2 a(1)a(1)b(v1)c(v0,v2)=0 fresh",
            "2/3 x/6 -/3 1/2 x/6 0/3 => INVALID");
    }

    /** STALE if that is the shape of a fresh entry of the book, else FRESH. */
    private static void staleByShape() {
        Script.run("numbers, nulls and objects once more", plain(0, 2, 5, 3),
            "0/4 -/3 1/3 => 0 a(1)=o fresh",
            "1/4 x/6 -/3 0/1 => 1 a(1)b(v0)=1 fresh",
            "3/4 x/6 -/3 0/1 x/3 0/3 => 2 a(1)d(v0,0)=o stale",
            "2/4 x/6 -/3 0/1 => 3 a(1)c(v0)=n fresh",
            "3/4 x/6 -/3 0/2 x/3 1/3 => 4 a(1)d(v0,1)=o fresh",
            "2/4 x/6 -/3 2/3 => 5 a(1)d(v0,1)c(v1)=n stale");
    }

    /** A SHAPE: the number; null; or the row of the classes and values of the objects. */
    private static void shapesAreToldApart() {
        Script.run("number 0, null and an object of value 0", plain(0, 5, 2),
            "0/3 -/3 0/3 => 0 a(0)=o fresh",
            "1/3 x/6 -/3 0/1 => 1 a(0)b(v0)=n fresh",
            "2/3 x/6 -/3 0/2 => 2 a(0)c(v0)=0 fresh");
        Script.run("two classes", x -> {
            x.type(0, 0, 0);
            x.type(1, 0, 0);
            makers(x, 1, 2);
        },
            "0/2 -/3 1/3 => 0 a(1)=o fresh",
            "1/2 -/3 1/3 => 1 b(1)=o fresh",
            "0/2 -/3 0/3 => 2 a(0)=o fresh");
        Script.run("rows of other lengths, and a last value else", plain(0, 1, 4),
            "0/3 -/3 1/3 => 0 a(1)=o fresh",
            "1/3 x/6 -/3 0/1 => 1 a(1)b(v0)=o fresh",
            "0/3 -/3 0/3 => 2 a(0)=o fresh",
            "2/3 x/6 -/3 0/3 x/6 x/3 2/3 => 3 a(1)a(0)c(v0,v1)=o fresh",
            "2/3 x/6 -/3 0/4 x/6 x/3 0/4 => 4 a(1)a(1)c(v0,v1)=o stale",
            "1/3 x/6 -/3 1/4 => 5 a(1)b(v0)b(v1)=o fresh");
    }

    /** The longest rows that there are, which differ in their last object alone. */
    private static void shapesOfTenObjects() {
        Caller x = new Caller(187596);
        x.type(0, 0, 0);
        x.type(1, 0, 0);
        makers(x, 1, 2);
        x.operation(1, 2, 1);
        for (int i = 0; i < 400; i++) {
            x.step();
        }
        boolean[] seen = new boolean[2];
        for (int e = 0; e < x.entries(); e++) {
            Check.due("outcome of " + Check.textOf(x, e), x.entry(e, 0), 0);
            for (int first = 0; first < 2; first++) {
                String text = "ab".charAt(first) + "(0)c(v0)c(v1)c(v2)c(v3)c(v4)c(v5)c(v6)c(v7)c(v8)=o";
                seen[first] |= Check.textOf(x, e).equals(text);
            }
        }
        Check.due("both rows of ten were seen", seen[0] && seen[1], true);
    }

    /** Null is one for all types. */
    private static void nullIsOneShapeForAllTypes() {
        Script.run("nulls of two classes", x -> {
            x.type(0, 0, 0);
            x.type(0, 0, 0);
            makers(x, 1);
            x.operation(5, 1, 1);
            x.operation(5, 1, 2);
            x.operation(2, 2, 0);
        },
            "0/4 -/3 1/3 => 0 a(1)=o fresh",
            "1/4 x/6 -/3 0/1 => 1 a(1)b(v0)=n fresh",
            "2/4 x/6 -/3 0/2 => 2 a(1)c(v0)=n stale",
            "3/4 x/6 -/3 => LACK");
    }

    /** The result of a faulty entry is the shape of no fresh one. */
    private static void shapeOfFreshAlone() {
        Script.run("a number first in a faulty entry", x -> {
            x.type(0, 1, 2);
            makers(x, 1);
            x.operation(9, 1, 1);
        },
            "0/2 -/3 1/3 => 0 a(1)=o fresh",
            "1/2 x/6 -/3 0/1 x/6 x/3 0/1 => 1 a(1)a(1)b(v0,v1)?3",
            "entry 1 4 => 1",
            "1/2 x/6 -/3 0/1 x/6 0/3 => 2 a(1)b(v0,v0)=1 fresh",
            "entry 2 4 => 1");
        Script.run("an object first in a troubled entry", plain(0, 4),
            "0/2 -/3 1/3 => 0 a(1)=o fresh",
            "1/2 x/6 -/3 0/1 x/6 0/3 => 1 a(1)b(v0,v0)!2",
            "1/2 x/6 -/3 0/1 x/6 x/3 0/1 => 2 a(1)a(1)b(v0,v1)=o fresh");
    }

    /** Each trouble and each fault as a step meets it. */
    private static void troublesAndFaults() {
        Script.run("RANGE, ZERO and fault 4", plain(0, 6, 7),
            "literal 101 => 3",
            "0/3 -/3 3/4 => 0 a(101)!1",
            "0/3 -/3 1/4 => 1 a(1)=o fresh",
            "1/3 x/6 -/3 0/1 -/3 0/4 => 2 a(1)b(v0,0)!4",
            "2/3 x/6 -/3 0/1 => 3 a(1)c(v0)?4");
        Script.run("CAST", x -> {
            x.type(0, 0, 0);
            x.type(0, 0, 0);
            makers(x, 1);
            x.operation(1, 1, 1);
            x.operation(5, 1, 2);
        },
            "0/3 -/3 1/3 => 0 a(1)=o fresh",
            "1/3 x/6 -/3 0/1 => 1 a(1)b(v0)=o fresh",
            "2/3 x/6 -/3 1/2 => 2 a(1)b(v0)c(v1)!3",
            "2/3 x/6 -/3 0/2 => 3 a(1)c(v0)=n fresh");
        Script.run("fault 2", x -> {
            x.type(0, 3, 0);
            x.type(1, 1, 0);
            makers(x, 1, 2);
            x.operation(9, 1, 1);
        },
            "0/3 -/3 1/3 => 0 a(1)=o fresh",
            "1/3 -/3 1/3 => 1 b(1)=o fresh",
            "2/3 x/6 -/3 0/2 x/6 x/3 1/2 => 2 a(1)b(1)c(v0,v1)?2",
            "entry 2 4 => 1",
            "2/3 x/6 -/3 1/2 x/6 x/3 0/2 => 3 b(1)a(1)c(v0,v1)?2",
            "entry 3 4 => 0");
    }
}
