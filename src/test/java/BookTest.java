/** Promises 8 to 11: entries, entry, statement and text, on books that steps have made. */
final class BookTest {
    public static void main(String[] args) {
        emptyBook();
        wrongNumbers();
        oneEntry();
        longLiterals();
        faultyNumber();
        textAgreesWithStatements();
        Check.end();
    }

    private static void emptyBook() {
        CallExplorer x = new CallExplorer(1);
        Check.due("entries()", x.entries(), 0);
        Check.due("entry(0, 0)", x.entry(0, 0), -1);
        Check.due("statement(0, 0, 0)", x.statement(0, 0, 0), -2);
        Check.due("text(0, 0)", x.text(0, 0), -2);
        Check.due("text(0, -1)", x.text(0, -1), -2);
    }

    private static CallExplorer world(int state) {
        CallExplorer x = new CallExplorer(state);
        x.type(0, 1, 0);
        x.type(1, 2, 3);
        x.operation(0, 1, 0);
        x.operation(0, 2, 0);
        x.operation(2, 1, 0);
        x.operation(4, 1, 2);
        x.operation(5, 1, 2);
        x.operation(6, 2, 0);
        x.operation(7, 1, 0);
        x.operation(9, 2, 1);
        x.literal(-42);
        for (int i = 0; i < 120; i++) {
            x.step();
        }
        return x;
    }

    private static void wrongNumbers() {
        CallExplorer x = world(9);
        int count = x.entries();
        Check.due("some entries", count > 5, true);
        int[] none = {-1, count, Integer.MIN_VALUE, Integer.MAX_VALUE};
        for (int e : none) {
            Check.due("entry(" + e + ", 0)", x.entry(e, 0), -1);
            Check.due("statement(" + e + ", 0, 0)", x.statement(e, 0, 0), -2);
            Check.due("text(" + e + ", 0)", x.text(e, 0), -2);
            Check.due("text(" + e + ", -1)", x.text(e, -1), -2);
        }
        for (int what : new int[] {-1, 5, Integer.MIN_VALUE, Integer.MAX_VALUE}) {
            Check.due("entry(0, " + what + ")", x.entry(0, what), -1);
            Check.due("statement(0, 0, " + what + ")", x.statement(0, 0, what), -2);
        }
        for (int k : new int[] {-1, x.entry(0, 2), 10, Integer.MIN_VALUE, Integer.MAX_VALUE}) {
            Check.due("statement(0, " + k + ", 0)", x.statement(0, k, 0), -2);
        }
        for (int i : new int[] {-2, x.text(0, -1), 1000, Integer.MIN_VALUE, Integer.MAX_VALUE}) {
            Check.due("text(0, " + i + ")", x.text(0, i), -2);
        }
    }

    private static void oneEntry() {
        CallExplorer x = new CallExplorer(0);
        x.type(0, 1, 0);
        x.type(0, 1, 0);
        x.operation(0, 2, 0);
        Check.due("step()", x.step(), 0);
        int literal = new int[] {0, 1, -1}[(Check.drawn(0, 3) >>> 16) % 3];
        int[] want = {0, 0, 1, 2, 0};
        for (int what = 0; what < 5; what++) {
            Check.due("entry(0, " + what + ")", x.entry(0, what), want[what]);
        }
        int[] parts = {0, 1, literal, -1, 0};
        for (int what = 0; what < 5; what++) {
            Check.due("statement(0, 0, " + what + ")", x.statement(0, 0, what), parts[what]);
        }
        Check.due("text", Check.textOf(x, 0), "a(" + literal + ")=o");
    }

    private static void longLiterals() {
        int seen = 0;
        for (int state = 0; state < 30; state++) {
            CallExplorer x = new CallExplorer(state);
            x.type(0, 1, 0);
            x.operation(0, 1, 0);
            x.literal(Integer.MIN_VALUE);
            x.literal(Integer.MAX_VALUE);
            x.literal(-100);
            x.literal(100);
            for (int i = 0; i < 10; i++) {
                int e = x.step();
                if (e >= 0) {
                    int v = x.statement(e, 0, 2);
                    seen |= v == Integer.MIN_VALUE ? 1 : v == Integer.MAX_VALUE ? 2 : v == 100 ? 4 : 0;
                    String end = Math.abs((long) v) > 100 ? "!1" : "=o";
                    Check.due("text of " + v, Check.textOf(x, e), "a(" + v + ")" + end);
                }
            }
        }
        Check.due("all were seen", seen, 7);
    }

    /** A faulty entry without trouble still has the number that its last statement gave. */
    private static void faultyNumber() {
        boolean seen = false;
        for (int state = 0; state < 50; state++) {
            CallExplorer x = new CallExplorer(state);
            x.type(0, 1, 2);
            x.operation(0, 1, 0);
            x.operation(9, 1, 1);
            for (int i = 0; i < 30; i++) {
                int e = x.step();
                if (e >= 0 && Check.textOf(x, e).matches("a\\((.*)\\)a\\(\\1\\)b\\(v0,v1\\).*")) {
                    seen = true;
                    Check.due("outcome", x.entry(e, 0), 3);
                    Check.due("fault", x.entry(e, 1), 3);
                    Check.due("type", x.entry(e, 3), 0);
                    Check.due("number of " + Check.textOf(x, e), x.entry(e, 4), 1);
                }
            }
        }
        Check.due("one was seen", seen, true);
    }

    private static void textAgreesWithStatements() {
        boolean[] ends = new boolean[128];
        for (int state = 0; state < 50; state++) {
            CallExplorer x = world(state);
            for (int e = 0; e < x.entries(); e++) {
                String text = Check.textOf(x, e);
                String calls = "";
                for (int k = 0; k < x.entry(e, 2); k++) {
                    calls += call(x, e, k);
                }
                Check.due("calls of " + text, text.startsWith(calls), true);
                String end = text.substring(calls.length());
                ends[end.charAt(0)] = true;
                ends[end.charAt(1)] = true;
                Check.due("end of " + text, end, endOf(x, e, end));
            }
        }
        Check.due("all ends were seen", ends['='] && ends['!'] && ends['?'] && ends['n'] && ends['o'], true);
    }

    private static String call(CallExplorer x, int e, int k) {
        String second = x.statement(e, k, 3) < 0 ? "" : "," + argument(x, e, k, 3);
        return (char) ('a' + x.statement(e, k, 0)) + "(" + argument(x, e, k, 1) + second + ")";
    }

    private static String argument(CallExplorer x, int e, int k, int what) {
        int content = x.statement(e, k, what + 1);
        return new String[] {"v" + content, "" + content, "n"}[x.statement(e, k, what)];
    }

    private static String endOf(CallExplorer x, int e, String end) {
        switch (x.entry(e, 0)) {
            case 2:
                return "!" + x.entry(e, 1);
            case 3:
                return "?" + x.entry(e, 1);
            default:
                Check.due("detail of a good entry", x.entry(e, 1), 0);
                return x.entry(e, 3) == 0 ? "=" + x.entry(e, 4) : end.equals("=n") ? "=n" : "=o";
        }
    }
}
