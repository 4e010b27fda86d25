/** Promise 6: seek. */
final class SeekTest {
    public static void main(String[] args) {
        boundsOfN();
        atMostNSteps();
        stopsAtTheFaultyOne();
        theLastStepCounts();
        otherAnswersEndNothing();
        onlyNewEntriesCount();
        onAFullBook();
        fillsTheBook();
        withoutOperations();
        asSingleSteps();
        Check.end();
    }

    /** Operations a and b give objects without fault, c faulty ones; a step draws three times. */
    private static Caller world(int state) {
        Caller x = new Caller(state);
        x.type(0, 0, 0);
        x.type(0, 4, 0);
        x.operation(0, 1, 0);
        x.operation(0, 1, 0);
        x.operation(0, 2, 0);
        return x;
    }

    /** A state from which operation c is drawn first in just this step, counted from 1. */
    private static int firstFaultyIn(int step) {
        for (int state = 0; state < Integer.MAX_VALUE; state++) {
            int i = 1;
            while (i <= step && (Check.drawn(state, 3 * i - 2) >>> 16) % 3 != 2) {
                i++;
            }
            if (i == step) {
                return state;
            }
        }
        throw new IllegalStateException("no such state");
    }

    /** -1 if n is not 1 .. 20 (then there are no steps). */
    private static void boundsOfN() {
        int state = firstFaultyIn(1);
        for (int n : new int[] {Integer.MIN_VALUE, -20, -1, 0, 21, 22, Integer.MAX_VALUE}) {
            Caller x = world(state);
            Check.due("seek(" + n + ")", x.seek(n), -1);
            Check.due("state after seek(" + n + ")", x.state(), state);
            Check.due("entries after seek(" + n + ")", x.entries(), 0);
            Probe.unchanged("seek(" + n + ")", y -> {
                y.type(0, 1, 2);
                y.operation(0, 1, 0);
                y.operation(7, 1, 0);
                y.step();
            }, y -> y.seek(n));
        }
        for (int n : new int[] {1, 2, 19, 20}) {
            Caller x = world(state);
            Check.due("seek(" + n + ")", x.seek(n), 0);
            Check.due("state after seek(" + n + ")", x.state(), Check.drawn(state, 3));
        }
    }

    /** At most n of them; -1 if there was none. */
    private static void atMostNSteps() {
        for (int n = 1; n <= 20; n++) {
            Caller x = new Caller(n);
            x.type(0, 0, 0);
            x.operation(0, 1, 0);
            Check.due("seek(" + n + ") without faults", x.seek(n), -1);
            Check.due("state after seek(" + n + ")", x.state(), Check.drawn(n, 3 * n));
        }
    }

    /** Until one gives a new entry that is FAULTY: its number. */
    private static void stopsAtTheFaultyOne() {
        for (int step = 1; step <= 6; step++) {
            int state = firstFaultyIn(step);
            Caller x = world(state);
            int found = x.seek(20);
            Check.due("the entry found in step " + step, found, x.entries() - 1);
            Check.due("its outcome", x.entry(found, 0), 3);
            Check.due("state when found in step " + step, x.state(), Check.drawn(state, 3 * step));
        }
    }

    /** Found by the last of n steps, and not found if it would be one more. */
    private static void theLastStepCounts() {
        for (int step : new int[] {1, 2, 5, 19, 20}) {
            int state = firstFaultyIn(step);
            Caller x = world(state);
            int found = x.seek(step);
            Check.due("found by step " + step + " of as many", found, x.entries() - 1);
            Check.due("its outcome", x.entry(found, 0), 3);
            if (step > 1) {
                Caller y = world(state);
                Check.due("step " + step + " is one too late", y.seek(step - 1), -1);
                Check.due("state then", y.state(), Check.drawn(state, 3 * step - 3));
                Check.due("found by one step more", y.seek(1), found);
            }
        }
        int state = firstFaultyIn(21);
        Caller x = world(state);
        Check.due("step 21 is too late for seek(20)", x.seek(20), -1);
        Check.due("state then", x.state(), Check.drawn(state, 60));
    }

    /** Other answers and entries end nothing: LACK, INVALID, AGAIN, LONG, fresh, stale and troubled ones. */
    private static void otherAnswersEndNothing() {
        boolean[] seen = new boolean[10];
        for (int state = 0; state < 400; state++) {
            Caller x = busy(state);
            Caller y = busy(state);
            int answer = -1;
            for (int i = 0; i < 20 && answer < 0; i++) {
                int e = y.step();
                seen[e < 0 ? -e : 6 + y.entry(e, 0)] = true;
                answer = e >= 0 && y.entry(e, 0) == 3 ? e : -1;
            }
            Check.due("seek(20) from " + state, x.seek(20), answer);
            Check.due("all else then", Probe.look(x), Probe.look(y));
        }
        Check.due("LACK, LONG, AGAIN, INVALID were seen", seen[2] && seen[3] && seen[4] && seen[5], true);
        Check.due("all outcomes were seen", seen[6] && seen[7] && seen[8] && seen[9], true);
    }

    private static Caller busy(int state) {
        Caller x = new Caller(state);
        x.type(0, 0, 0);
        x.type(0, 0, 0);
        x.operation(0, 1, 0);
        x.operation(1, 1, 1);
        x.operation(4, 1, 1);
        x.operation(4, 1, 1);
        x.operation(2, 2, 0);
        x.operation(7, 1, 0);
        for (int i = 0; i < 12; i++) {
            x.step();
        }
        return x;
    }

    /** A faulty entry that the book had before ends nothing. */
    private static void onlyNewEntriesCount() {
        Caller x = new Caller(5);
        x.type(0, 4, 0);
        x.operation(0, 1, 0);
        for (int e = 0; e < 3; e++) {
            Check.due("seek(20) with three faulty ones to find", x.seek(20), e);
        }
        int state = x.state();
        Check.due("seek(20) with all of them found", x.seek(20), -1);
        Check.due("state then", x.state(), Check.drawn(state, 60));
        Check.due("entries then", x.entries(), 3);
    }

    private static Caller manyFaulty(int state) {
        Caller x = new Caller(state);
        x.type(0, 4, 0);
        for (int i = 0; i < 10; i++) {
            x.operation(0, 1, 0);
        }
        for (int v = 2; v < 7; v++) {
            x.literal(v);
        }
        return x;
    }

    /** The last faulty entry of a full book is not found again. */
    private static void onAFullBook() {
        Caller x = manyFaulty(8);
        for (int e = 0; e < 40; e++) {
            Check.due("seek(20)", x.seek(20), e);
        }
        Check.due("outcome of the last", x.entry(39, 0), 3);
        String before = Probe.look(x);
        for (int n : new int[] {1, 2, 20}) {
            Check.due("seek(" + n + ") on a full book", x.seek(n), -1);
            Check.due("all else then", Probe.look(x), before);
        }
    }

    /** Steps on a full book end nothing and draw nothing, also within a seek. */
    private static void fillsTheBook() {
        for (int state = 0; state < 20; state++) {
            Caller x = new Caller(state);
            Caller y = new Caller(state);
            for (Caller z : new Caller[] {x, y}) {
                z.type(0, 0, 0);
                for (int i = 0; i < 10; i++) {
                    z.operation(0, 1, 0);
                }
                z.literal(9);
                z.literal(8);
            }
            for (int i = 0; i < 10; i++) {
                Check.due("seek(20) without faults", x.seek(20), -1);
            }
            for (int i = 0; i < 400 && y.entries() < 40; i++) {
                y.step();
            }
            Check.due("the book was filled", y.entries(), 40);
            Check.due("all else then", Probe.look(x), Probe.look(y));
        }
    }

    private static void withoutOperations() {
        Caller x = new Caller(3);
        Check.due("seek(20) without operations", x.seek(20), -1);
        Check.due("seek(1) without operations", x.seek(1), -1);
        Check.due("state then", x.state(), 3);
    }

    private static void asSingleSteps() {
        for (int state = 0; state < 100; state++) {
            Caller x = faulty(state);
            Caller y = faulty(state);
            int n = 1 + state % 20;
            int want = -1;
            for (int i = 0; i < n && want < 0; i++) {
                int e = y.step();
                want = e >= 0 && y.entry(e, 0) == 3 ? e : -1;
            }
            Check.due("seek(" + n + ") from " + state, x.seek(n), want);
            Check.due("all else then", Probe.look(x), Probe.look(y));
        }
    }

    private static Caller faulty(int state) {
        Caller x = new Caller(state);
        x.type(0, 1, 2);
        x.operation(0, 1, 0);
        x.operation(7, 1, 0);
        x.operation(4, 1, 1);
        return x;
    }
}
