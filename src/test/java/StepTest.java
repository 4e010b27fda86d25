import java.util.HashSet;
import java.util.Set;

/** Promises 5 and 6: step and seek, with the draws of RANDOM that each needs. */
final class StepTest {
    public static void main(String[] args) {
        literalsAreDrawn();
        again();
        lackAndInvalid();
        numbersAreTaken();
        sameVariableTwice();
        subclassesAreTaken();
        staleIsNotTaken();
        longAndFull();
        nullIsOneShape();
        seeks();
        Check.end();
    }

    /** RANDOM of n after so many draws before it. */
    private static int draw(int state, int before, int n) {
        return (Check.drawn(state, before + 1) >>> 16) % n;
    }

    private static void literalsAreDrawn() {
        for (int state = -50; state < 50; state++) {
            CallExplorer x = new CallExplorer(state);
            x.type(0, 1, 0);
            x.operation(0, 1, 0);
            x.operation(0, 1, 0);
            x.literal(55);
            int[] literals = {0, 1, -1, 55};
            Check.due("step from " + state, x.step(), 0);
            Check.due("state after it", x.state(), Check.drawn(state, 3));
            Check.due("its operation", x.statement(0, 0, 0), draw(state, 0, 2));
            Check.due("its literal", x.statement(0, 0, 2), literals[draw(state, 2, 4)]);
        }
    }

    private static void again() {
        CallExplorer x = new CallExplorer(3);
        x.type(0, 1, 0);
        x.operation(0, 1, 0);
        int made = 0;
        for (int i = 0; i < 60; i++) {
            int answer = x.step();
            if (answer == made) {
                made++;
            } else {
                Check.due("step with nothing new", answer, CallExplorer.AGAIN);
            }
        }
        Check.due("entries of three literals", x.entries(), 3);
        Check.due("state after sixty steps", x.state(), Check.drawn(3, 180));
    }

    private static void lackAndInvalid() {
        int invalid = 0;
        for (int state = 0; state < 100; state++) {
            CallExplorer x = new CallExplorer(state);
            x.type(0, 1, 0);
            x.operation(2, 1, 0);
            boolean isNull = draw(state, 1, 6) == 0;
            invalid += isNull ? 1 : 0;
            Check.due("step from " + state, x.step(), isNull ? CallExplorer.INVALID : CallExplorer.LACK);
            Check.due("state after it", x.state(), Check.drawn(state, isNull ? 2 : 3));
            Check.due("entries", x.entries(), 0);
        }
        Check.due("both were seen", invalid > 0 && invalid < 100, true);
    }

    private static void numbersAreTaken() {
        boolean taken = false;
        for (int state = 0; state < 40 && !taken; state++) {
            CallExplorer x = new CallExplorer(state);
            x.type(0, 0, 0);
            x.operation(0, 1, 0);
            x.operation(2, 1, 0);
            for (int i = 0; i < 60; i++) {
                int e = x.step();
                if (e >= 0 && x.entry(e, 2) == 3) {
                    taken = true;
                    Check.due("last argument is a variable", x.statement(e, 2, 1), 0);
                    Check.due("it is the one before", x.statement(e, 2, 2), 1);
                }
            }
        }
        Check.due("a number was taken", taken, true);
    }

    private static void sameVariableTwice() {
        int same = 0;
        int moved = 0;
        for (int state = 0; state < 200; state++) {
            CallExplorer x = new CallExplorer(state);
            x.type(0, 0, 0);
            x.operation(0, 1, 0);
            x.operation(9, 1, 1);
            for (int i = 0; i < 6; i++) {
                int e = x.step();
                String text = e >= 0 ? Check.textOf(x, e) : "";
                same += text.matches("a\\(-?[01]\\)b\\(v0,v0\\)=1") ? 1 : 0;
                moved += text.matches("a\\(-?[01]\\)a\\(-?[01]\\)b\\(v0,v1\\)=0") ? 1 : 0;
            }
        }
        Check.due("the same variable was chosen", same > 0, true);
        Check.due("two entries were taken", moved > 0, true);
    }

    private static void subclassesAreTaken() {
        int up = 0;
        for (int state = 0; state < 100; state++) {
            CallExplorer x = new CallExplorer(state);
            x.type(0, 0, 0);
            x.type(1, 0, 0);
            x.operation(0, 2, 0);
            x.operation(0, 1, 0);
            x.operation(2, 1, 0);
            x.operation(8, 2, 0);
            for (int i = 0; i < 60; i++) {
                int e = x.step();
                String text = e >= 0 ? Check.textOf(x, e) : "";
                up += text.matches("a\\(-?[01]\\)c\\(v0\\).*") ? 1 : 0;
                Check.due("a class for its subclass: " + text, text.matches(".*b\\([^)]*\\)d\\(v.*"), false);
            }
        }
        Check.due("a subclass was taken", up > 0, true);
    }

    /** Here every entry is one fresh entry with one call more. */
    private static void staleIsNotTaken() {
        int stale = 0;
        for (int state = 0; state < 40; state++) {
            CallExplorer x = new CallExplorer(state);
            x.type(0, 0, 0);
            x.operation(0, 1, 0);
            x.operation(3, 1, 0);
            Set<String> fresh = new HashSet<>();
            for (int i = 0; i < 200; i++) {
                int e = x.step();
                String text = e >= 0 ? Check.textOf(x, e) : "b()";
                String before = text.substring(0, text.lastIndexOf("b(") < 0 ? 0 : text.lastIndexOf("b("));
                Check.due("what " + text + " takes is fresh", before.isEmpty() || fresh.contains(before), true);
                if (e >= 0 && x.entry(e, 0) == 0) {
                    fresh.add(text.substring(0, text.indexOf("=")));
                }
                stale += e >= 0 ? x.entry(e, 0) : 0;
            }
        }
        Check.due("stale ones were seen", stale > 0, true);
    }

    private static void longAndFull() {
        int tooLong = 0;
        int full = 0;
        int longest = 0;
        for (int state = 0; state < 100; state++) {
            CallExplorer x = new CallExplorer(state);
            x.type(0, 0, 0);
            x.operation(0, 1, 0);
            x.operation(1, 1, 1);
            x.operation(4, 1, 1);
            for (int i = 0; i < 200; i++) {
                tooLong += x.step() == CallExplorer.LONG ? 1 : 0;
            }
            for (int e = 0; e < x.entries(); e++) {
                longest = Math.max(longest, x.entry(e, 2));
            }
            if (x.entries() == 40) {
                full++;
                int before = x.state();
                Check.due("step on a full book", x.step(), CallExplorer.FULL);
                Check.due("seek on a full book", x.seek(20), -1);
                Check.due("state then", x.state(), before);
                Check.due("entries then", x.entries(), 40);
            }
        }
        Check.due("LONG was seen", tooLong > 0, true);
        Check.due("statements of the longest entry", longest, 10);
        Check.due("FULL was seen", full > 0, true);
    }

    /** Once a null of one type is fresh, a null of another type is stale. */
    private static void nullIsOneShape() {
        int nulls = 0;
        for (int state = 0; state < 100; state++) {
            CallExplorer x = new CallExplorer(state);
            x.type(0, 0, 0);
            x.type(0, 0, 0);
            x.operation(0, 1, 0);
            x.operation(5, 1, 1);
            x.operation(5, 1, 2);
            boolean seen = false;
            for (int i = 0; i < 40; i++) {
                int e = x.step();
                if (e >= 0 && Check.textOf(x, e).endsWith("=n")) {
                    Check.due("outcome of a null", x.entry(e, 0), seen ? 1 : 0);
                    nulls += seen ? 1 : 0;
                    seen = true;
                }
            }
        }
        Check.due("several nulls were seen", nulls > 0, true);
    }

    private static void seeks() {
        for (int state = 0; state < 100; state++) {
            CallExplorer x = faulty(state);
            for (int n : new int[] {0, 21, -1, Integer.MIN_VALUE, Integer.MAX_VALUE}) {
                Check.due("seek(" + n + ")", x.seek(n), -1);
            }
            Check.due("state after no steps", x.state(), state);
            CallExplorer y = faulty(state);
            int n = 1 + state % 20;
            int want = -1;
            for (int i = 0; i < n && want < 0; i++) {
                int e = y.step();
                want = e >= 0 && y.entry(e, 0) == 3 ? e : -1;
            }
            Check.due("seek(" + n + ") from " + state, x.seek(n), want);
            Check.due("state then", x.state(), y.state());
            Check.due("entries then", x.entries(), y.entries());
        }
    }

    private static CallExplorer faulty(int state) {
        CallExplorer x = new CallExplorer(state);
        x.type(0, 1, 2);
        x.operation(0, 1, 0);
        x.operation(7, 1, 0);
        x.operation(4, 1, 1);
        return x;
    }
}
