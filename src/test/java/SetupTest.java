/** Promises 1 to 4 and 14: a new object, type, operation, literal, state. */
final class SetupTest {
    public static void main(String[] args) {
        newObject();
        types();
        typesAfterAnOperation();
        operations();
        tenOperations();
        literals();
        state();
        Check.end();
    }

    private static void newObject() {
        CallExplorer x = new CallExplorer(77);
        Check.due("entries of a new object", x.entries(), 0);
        Check.due("state of a new object", x.state(), 77);
        Check.due("step without operations", x.step(), CallExplorer.NONE);
        Check.due("replay of no draft", x.replay(), -1);
        Check.due("operation without classes", x.operation(0, 1, 0), -1);
        Check.due("first literal of one's own", x.literal(9), 3);
        Check.due("first class", x.type(0, 0, 0), 1);
        Check.due("first operation", x.operation(0, 1, 0), 0);
    }

    private static void types() {
        CallExplorer x = new CallExplorer(0);
        int[][] wrong = {{-1, 0, 0}, {1, 0, 0}, {2, 0, 0}, {0, -1, 0}, {0, 5, 0}, {0, 0, -1}, {0, 0, 4},
            {Integer.MIN_VALUE, 0, 0}, {0, Integer.MAX_VALUE, 0}, {0, 0, Integer.MIN_VALUE}};
        for (int[] row : wrong) {
            Check.due("type(" + row[0] + ", " + row[1] + ", " + row[2] + ")", x.type(row[0], row[1], row[2]), -1);
        }
        Check.due("type(0, 0, 0)", x.type(0, 0, 0), 1);
        Check.due("type(2, 0, 0) of itself", x.type(2, 0, 0), -1);
        Check.due("type(1, 4, 3)", x.type(1, 4, 3), 2);
        Check.due("type(2, 2, 1)", x.type(2, 2, 1), 3);
        Check.due("type(0, 3, 2)", x.type(0, 3, 2), 4);
        Check.due("a fifth type", x.type(0, 0, 0), -1);
        Check.due("operation on the fourth", x.operation(0, 4, 0), 0);
        Check.due("operation on a fifth", x.operation(0, 5, 0), -1);
    }

    private static void typesAfterAnOperation() {
        CallExplorer x = new CallExplorer(0);
        Check.due("type", x.type(0, 0, 0), 1);
        Check.due("refused operation", x.operation(0, 2, 0), -1);
        Check.due("type after a refused operation", x.type(0, 0, 0), 2);
        Check.due("operation", x.operation(0, 2, 0), 0);
        Check.due("type after an operation", x.type(0, 0, 0), -1);
    }

    private static void operations() {
        boolean[] hasD = {false, true, false, false, true, true, false, false, false, true};
        for (int kind = 0; kind < 10; kind++) {
            CallExplorer x = new CallExplorer(0);
            x.type(0, 0, 0);
            x.type(0, 0, 0);
            for (int wrong : new int[] {0, 3, -1, Integer.MIN_VALUE, Integer.MAX_VALUE}) {
                Check.due("kind " + kind + " of c " + wrong, x.operation(kind, wrong, 1), -1);
            }
            int made = 0;
            for (int d : new int[] {0, 3, -1, Integer.MAX_VALUE, 1, 2}) {
                boolean good = !hasD[kind] || d == 1 || d == 2;
                Check.due("kind " + kind + " of d " + d, x.operation(kind, 2, d), good ? made++ : -1);
            }
        }
        CallExplorer x = new CallExplorer(0);
        x.type(0, 0, 0);
        for (int kind : new int[] {-1, 10, Integer.MIN_VALUE, Integer.MAX_VALUE}) {
            Check.due("kind " + kind, x.operation(kind, 1, 1), -1);
        }
    }

    private static void tenOperations() {
        CallExplorer x = new CallExplorer(0);
        x.type(0, 0, 0);
        for (int i = 0; i < 10; i++) {
            Check.due("operation " + i, x.operation(i, 1, 1), i);
        }
        Check.due("an eleventh operation", x.operation(0, 1, 1), -1);
        Check.replays(x, "a(4)j(v0,v0)=1", 1);
        Check.replays(x, "a(4)k(v0)=1", -1);
    }

    private static void literals() {
        CallExplorer x = new CallExplorer(0);
        Check.due("literal(0)", x.literal(0), -1);
        Check.due("literal(1)", x.literal(1), -1);
        Check.due("literal(-1)", x.literal(-1), -1);
        Check.due("literal of the least int", x.literal(Integer.MIN_VALUE), 3);
        Check.due("literal of the greatest int", x.literal(Integer.MAX_VALUE), 4);
        Check.due("the same again", x.literal(Integer.MIN_VALUE), -1);
        for (int i = 5; i < 8; i++) {
            Check.due("literal " + i, x.literal(10 * i), i);
        }
        Check.due("a ninth literal", x.literal(1000), -1);
    }

    private static void state() {
        for (int state : new int[] {0, -1, Integer.MIN_VALUE, Integer.MAX_VALUE}) {
            CallExplorer x = new CallExplorer(state);
            Check.due("state()", x.state(), state);
            x.step();
            x.seek(20);
            Check.due("state() after steps without operations", x.state(), state);
            x.type(0, 0, 0);
            x.operation(0, 1, 0);
            x.step();
            Check.due("state() after a step", x.state(), Check.drawn(state, 3));
        }
    }
}
