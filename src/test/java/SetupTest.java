/** Promises 1 to 4 and 14: a new object, type, operation, literal, state. */
final class SetupTest {
    private static final int LEAST = Integer.MIN_VALUE;
    private static final int GREATEST = Integer.MAX_VALUE;
    private static final boolean[] HAS_D = {false, true, false, false, true, true, false, false, false, true};

    public static void main(String[] args) {
        newObjectIsEmpty();
        newObjectHasThreeLiterals();
        newObjectHasTheState();
        fourClassesAtMost();
        noClassAfterAnOperation();
        parentIsNoneOrAClass();
        senseInBounds();
        markInBounds();
        classIsItselfAndWhatItExtends();
        tenOperationsAtMost();
        kindInBounds();
        cIsAClass();
        dIsAClassWhereItCounts();
        dDoesNotCountElsewhere();
        operationsMayComeLate();
        eightLiteralsAtMost();
        noLiteralTwice();
        literalsMayComeLate();
        stateChangesByDrawsAlone();
        Check.end();
    }

    private static void newObjectIsEmpty() {
        Caller x = new Caller(77);
        Check.due("entries of a new object", x.entries(), 0);
        Check.due("entry(0, 0) of a new object", x.entry(0, 0), -1);
        Check.due("statement(0, 0, 0) of a new object", x.statement(0, 0, 0), -2);
        Check.due("text(0, -1) of a new object", x.text(0, -1), -2);
        Check.due("shorten(0) of a new object", x.shorten(0), -1);
        Check.due("step without operations", x.step(), CallExplorer.NONE);
        Check.due("seek without operations", x.seek(20), -1);
        Check.due("replay of no draft", x.replay(), -1);
        Check.due("operation without classes", x.operation(0, 1, 0), -1);
        Check.due("operation on class 0", x.operation(0, 0, 0), -1);
        Check.replays(x, "a(1)=o", -1);
        Check.due("class extending none that there is", x.type(1, 0, 0), -1);
        Check.due("first class", x.type(0, 0, 0), 1);
        Check.due("step with a class alone", x.step(), CallExplorer.NONE);
        Check.due("first operation", x.operation(0, 1, 0), 0);
    }

    /** The literals are 0, 1 and -1, with the numbers 0, 1 and 2. */
    private static void newObjectHasThreeLiterals() {
        Script.run("the first literals", x -> makers(x, 1),
            "0/1 -/3 0/3 => 0 a(0)=o fresh",
            "0/1 -/3 1/3 => 1 a(1)=o fresh",
            "0/1 -/3 2/3 => 2 a(-1)=o fresh",
            "literal 0 => -1",
            "literal 1 => -1",
            "literal -1 => -1",
            "literal 9 => 3",
            "0/1 -/3 3/4 => 3 a(9)=o fresh");
    }

    private static void newObjectHasTheState() {
        for (int state : new int[] {0, 1, -1, 77, LEAST, GREATEST}) {
            Check.due("state of a new object", new Caller(state).state(), state);
        }
    }

    private static void makers(Caller x, int operations) {
        x.type(0, 0, 0);
        for (int i = 0; i < operations; i++) {
            x.operation(0, 1, 0);
        }
    }

    private static void classes(Caller x, int... parents) {
        for (int parent : parents) {
            x.type(parent, 0, 0);
        }
    }

    /** -1, refused, if four are there. */
    private static void fourClassesAtMost() {
        Caller x = new Caller(0);
        for (int c = 1; c <= 4; c++) {
            Check.due("class " + c, x.type(0, 0, 0), c);
        }
        Check.due("a fifth class", x.type(0, 0, 0), -1);
        Check.due("a fifth class that extends one", x.type(4, 1, 1), -1);
        Probe.unchanged("a fifth class", y -> classes(y, 0, 1, 2, 3), y -> y.type(0, 1, 2));
        Check.due("operation on a fifth class", x.operation(0, 5, 0), -1);
        Check.due("operation on the fourth class", x.operation(0, 4, 0), 0);
    }

    /** -1, refused, if an operation is there. */
    private static void noClassAfterAnOperation() {
        Caller x = new Caller(0);
        Check.due("type", x.type(0, 0, 0), 1);
        Check.due("refused operation", x.operation(0, 2, 0), -1);
        Check.due("type after a refused operation", x.type(0, 0, 0), 2);
        Check.due("operation", x.operation(0, 2, 0), 0);
        Check.due("type after an operation", x.type(0, 0, 0), -1);
        Check.due("operation on the class that was refused", x.operation(0, 3, 0), -1);
        Probe.unchanged("a class after an operation", y -> makers(y, 1), y -> y.type(0, 1, 2));
    }

    /** -1, refused, if parent is neither 0 nor a class: so a class extends one with a lesser number. */
    private static void parentIsNoneOrAClass() {
        for (int there = 0; there < 4; there++) {
            int[] before = new int[there];
            for (int parent : new int[] {LEAST, -4, -1, there + 1, there + 2, 4, 5, GREATEST}) {
                if (parent < 0 || parent > there) {
                    Caller x = new Caller(0);
                    classes(x, before);
                    Check.due("parent " + parent + " with " + there + " classes", x.type(parent, 0, 0), -1);
                    Probe.unchanged("parent " + parent, y -> classes(y, before), y -> y.type(parent, 1, 2));
                }
            }
            for (int parent = 0; parent <= there; parent++) {
                Caller x = new Caller(0);
                classes(x, before);
                Check.due("parent " + parent + " with " + there + " classes", x.type(parent, 0, 0), there + 1);
            }
        }
    }

    /** -1, refused, if sense is not 0 .. 4. */
    private static void senseInBounds() {
        for (int sense : new int[] {LEAST, -2, -1, 5, 6, GREATEST}) {
            Check.due("sense " + sense, new Caller(0).type(0, sense, 0), -1);
            Probe.unchanged("sense " + sense, y -> classes(y, 0), y -> y.type(0, sense, 0));
        }
        for (int sense = 0; sense <= 4; sense++) {
            Check.due("sense " + sense, new Caller(0).type(0, sense, 0), 1);
        }
    }

    /** -1, refused, if mark is not 0 .. 3. */
    private static void markInBounds() {
        for (int mark : new int[] {LEAST, -2, -1, 4, 5, GREATEST}) {
            Check.due("mark " + mark, new Caller(0).type(0, 0, mark), -1);
            Probe.unchanged("mark " + mark, y -> classes(y, 0), y -> y.type(0, 1, mark));
        }
        for (int mark = 0; mark <= 3; mark++) {
            Check.due("mark " + mark, new Caller(0).type(0, 0, mark), 1);
        }
    }

    /** A class IS itself, the class that it extends, the one that this extends, and so on. */
    private static void classIsItselfAndWhatItExtends() {
        isMatrix(new int[] {0, 0, 0, 0}, "1000 0100 0010 0001");
        isMatrix(new int[] {0, 1, 2, 3}, "1000 1100 1110 1111");
        isMatrix(new int[] {0, 1, 1, 1}, "1000 1100 1010 1001");
        isMatrix(new int[] {0, 1, 1, 2}, "1000 1100 1010 1101");
        isMatrix(new int[] {0, 0, 2, 1}, "1000 0100 0110 1001");
    }

    /** Row c, column t of the table: whether a variable of class c may stand for one of class t. */
    private static void isMatrix(int[] parents, String table) {
        Caller x = new Caller(0);
        classes(x, parents);
        for (int c = 1; c <= 4; c++) {
            x.operation(0, c, 0);
        }
        for (int t = 1; t <= 4; t++) {
            x.operation(2, t, 0);
        }
        for (int c = 0; c < 4; c++) {
            for (int t = 0; t < 4; t++) {
                String text = (char) ('a' + c) + "(5)" + (char) ('e' + t) + "(v0)=5";
                Check.replays(x, text, table.charAt(5 * c + t) == '1' ? 1 : -1);
            }
        }
    }

    /** -1, refused, if ten are there. */
    private static void tenOperationsAtMost() {
        Caller x = new Caller(0);
        x.type(0, 0, 0);
        for (int i = 0; i < 10; i++) {
            Check.due("operation " + i, x.operation(i, 1, 1), i);
        }
        Check.due("an eleventh operation", x.operation(0, 1, 1), -1);
        Check.replays(x, "a(4)j(v0,v0)=1", 1);
        Check.replays(x, "k(4)=o", -1);
        Probe.unchanged("an eleventh operation", y -> makers(y, 10), y -> y.operation(2, 1, 1));
    }

    /** -1, refused, if kind is not 0 .. 9. */
    private static void kindInBounds() {
        for (int kind : new int[] {LEAST, -2, -1, 10, 11, GREATEST}) {
            Caller x = new Caller(0);
            x.type(0, 0, 0);
            Check.due("kind " + kind, x.operation(kind, 1, 1), -1);
            Probe.unchanged("kind " + kind, y -> classes(y, 0), y -> y.operation(kind, 1, 1));
        }
        for (int kind = 0; kind <= 9; kind++) {
            Caller x = new Caller(0);
            x.type(0, 0, 0);
            Check.due("kind " + kind, x.operation(kind, 1, 1), 0);
        }
    }

    /** -1, refused, if c is no class. */
    private static void cIsAClass() {
        for (int kind = 0; kind <= 9; kind++) {
            Caller x = new Caller(0);
            classes(x, 0, 0);
            for (int c : new int[] {LEAST, -1, 0, 3, 4, 5, GREATEST}) {
                Check.due("kind " + kind + " of c " + c, x.operation(kind, c, 1), -1);
                int which = kind;
                Probe.unchanged("c " + c, y -> classes(y, 0, 0), y -> y.operation(which, c, 1));
            }
            Check.due("kind " + kind + " of c 1", x.operation(kind, 1, 1), 0);
            Check.due("kind " + kind + " of c 2", x.operation(kind, 2, 1), 1);
        }
    }

    /** -1, refused, if d is no class while the kind has a d. */
    private static void dIsAClassWhereItCounts() {
        for (int kind = 0; kind <= 9; kind++) {
            if (HAS_D[kind]) {
                Caller x = new Caller(0);
                classes(x, 0, 0);
                for (int d : new int[] {LEAST, -1, 0, 3, 4, 5, GREATEST}) {
                    Check.due("kind " + kind + " of d " + d, x.operation(kind, 1, d), -1);
                    int which = kind;
                    Probe.unchanged("d " + d, y -> classes(y, 0, 0), y -> y.operation(which, 1, d));
                }
                Check.due("kind " + kind + " of d 1", x.operation(kind, 1, 1), 0);
                Check.due("kind " + kind + " of d 2", x.operation(kind, 1, 2), 1);
            }
        }
    }

    /** Otherwise d does not count. */
    private static void dDoesNotCountElsewhere() {
        for (int kind = 0; kind <= 9; kind++) {
            if (!HAS_D[kind]) {
                Caller x = new Caller(0);
                classes(x, 0, 0);
                int made = 0;
                for (int d : new int[] {LEAST, -1, 0, 1, 2, 3, 5, GREATEST}) {
                    Check.due("kind " + kind + " of d " + d, x.operation(kind, 1, d), made);
                    made++;
                }
            }
        }
    }

    /** Only a class must come before the operations; an operation may come between steps. */
    private static void operationsMayComeLate() {
        Script.run("a late operation", x -> makers(x, 1),
            "0/1 -/3 1/3 => 0 a(1)=o fresh",
            "operation 2 1 0 => 1",
            "1/2 x/6 -/3 0/1 => 1 a(1)b(v0)=1 fresh",
            "operation 0 2 0 => -1",
            "operation 8 1 0 => 2",
            "2/3 x/6 -/3 0/1 => 2 a(1)c(v0)=1 stale");
    }

    /** -1, refused, if eight are there. */
    private static void eightLiteralsAtMost() {
        Caller x = new Caller(0);
        for (int i = 3; i < 8; i++) {
            Check.due("literal " + i, x.literal(10 * i), i);
        }
        Check.due("a ninth literal", x.literal(1000), -1);
        Check.due("a ninth literal that is there", x.literal(30), -1);
        Probe.unchanged("a ninth literal", SetupTest::eightLiterals, y -> y.literal(1000));
        Script.run("the eighth literal", SetupTest::eightLiterals,
            "literal 99 => -1",
            "0/1 -/3 7/8 => 0 a(70)=o fresh",
            "0/1 -/3 0/8 => 1 a(0)=o fresh",
            "0/1 -/3 6/8 => 2 a(60)=o fresh");
    }

    private static void eightLiterals(Caller x) {
        makers(x, 1);
        for (int i = 3; i < 8; i++) {
            x.literal(10 * i);
        }
    }

    /** -1, refused, if v is there already. */
    private static void noLiteralTwice() {
        Caller x = new Caller(0);
        for (int v : new int[] {0, 1, -1}) {
            Check.due("literal(" + v + ")", x.literal(v), -1);
        }
        Check.due("literal of the least int", x.literal(LEAST), 3);
        Check.due("the same again", x.literal(LEAST), -1);
        Check.due("literal of the greatest int", x.literal(GREATEST), 4);
        Check.due("the same again", x.literal(GREATEST), -1);
        Check.due("literal(2)", x.literal(2), 5);
        Check.due("literal(-2)", x.literal(-2), 6);
        Check.due("the least int once more", x.literal(LEAST), -1);
        Check.due("the last one again", x.literal(-2), -1);
        Check.due("one that is new", x.literal(3), 7);
        Probe.unchanged("a literal twice", y -> y.literal(5), y -> y.literal(5));
        Probe.unchanged("literal 0", y -> makers(y, 2), y -> y.literal(0));
    }

    private static void literalsMayComeLate() {
        Script.run("a late literal", x -> makers(x, 1),
            "0/1 -/3 1/3 => 0 a(1)=o fresh",
            "literal 101 => 3",
            "0/1 -/3 3/4 => 1 a(101)!1",
            "literal 101 => -1",
            "literal -101 => 4",
            "0/1 -/3 4/5 => 2 a(-101)!1");
    }

    private static void stateChangesByDrawsAlone() {
        Caller x = new Caller(1);
        x.step();
        x.seek(20);
        Check.due("state after steps without operations", x.state(), 1);
        makers(x, 1);
        x.literal(5);
        Check.due("state after all is made", x.state(), 1);
        x.step();
        // 1103515245 * 1 + 12345 and so on, worked out apart, modulo 2 to the 32nd.
        Check.due("state after a step of three draws", x.state(), 662824084);
        Probe.look(x);
        Check.draftAll(x, "a(1)=o");
        x.replay();
        x.shorten(0);
        Check.due("state after other calls", x.state(), Check.drawn(1, 3));
    }
}
