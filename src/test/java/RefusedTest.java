import java.util.ArrayList;
import java.util.List;

/** "A refused call changes nothing.": every call that refuses, with arguments in and out of all bounds. */
final class RefusedTest {
    private static final int[] NUMBERS = {Integer.MIN_VALUE, -2, -1, 0, 1, 2, 4, 5, 9, 10, 20, 21, 39, 40, 41,
        Integer.MAX_VALUE};
    private static final long[] DRAFTS = {0x100, 0x6100, 0x1f, 0x7f, 0x80, 0xff, 0x611f61, 0x617f61, -1L, -256,
        Long.MIN_VALUE, Long.MAX_VALUE, 0x6161616161616161L};

    /** A call by its name, and whether an answer of it says that it was refused. */
    private record Call(String name, Asked asked, boolean ofText) {
        boolean isRefused(long answer) {
            return answer == (ofText ? -2 : -1);
        }
    }

    private interface Asked {
        long of(Caller x);
    }

    public static void main(String[] args) {
        List<Call> calls = calls();
        int refused = refusedIn("a new object", x -> { }, calls);
        Check.due("refused by a new object", refused > 400, true);
        Check.due("refused with classes", refusedIn("classes", RefusedTest::classes, calls) > 400, true);
        Check.due("refused with a book", refusedIn("a book", RefusedTest::book, calls) > 400, true);
        Check.due("refused when all is full", refusedIn("all full", RefusedTest::full, calls) > 400, true);
        everyKindOfCallWasRefused(calls);
        Check.end();
    }

    private static List<Call> calls() {
        List<Call> calls = new ArrayList<>();
        for (int n : NUMBERS) {
            calls.add(new Call("type(" + n + ", 1, 1)", x -> x.type(n, 1, 1), false));
            calls.add(new Call("type(0, " + n + ", 1)", x -> x.type(0, n, 1), false));
            calls.add(new Call("type(0, 1, " + n + ")", x -> x.type(0, 1, n), false));
            calls.add(new Call("operation(" + n + ", 1, 1)", x -> x.operation(n, 1, 1), false));
            calls.add(new Call("operation(2, " + n + ", 1)", x -> x.operation(2, n, 1), false));
            calls.add(new Call("operation(9, 1, " + n + ")", x -> x.operation(9, 1, n), false));
            calls.add(new Call("literal(" + n + ")", x -> x.literal(n), false));
            calls.add(new Call("shorten(" + n + ")", x -> x.shorten(n), false));
            calls.add(new Call("entry(" + n + ", 0)", x -> x.entry(n, 0), false));
            calls.add(new Call("entry(0, " + n + ")", x -> x.entry(0, n), false));
            calls.add(new Call("statement(" + n + ", 0, 0)", x -> x.statement(n, 0, 0), true));
            calls.add(new Call("statement(0, " + n + ", 0)", x -> x.statement(0, n, 0), true));
            calls.add(new Call("statement(0, 0, " + n + ")", x -> x.statement(0, 0, n), true));
            calls.add(new Call("text(" + n + ", 0)", x -> x.text(n, 0), true));
            calls.add(new Call("text(0, " + n + ")", x -> x.text(0, n), true));
            if (n < 1 || n > 20) {
                calls.add(new Call("seek(" + n + ")", x -> x.seek(n), false));
            }
        }
        for (long s : DRAFTS) {
            calls.add(new Call("draft(" + s + ")", x -> x.draft(s) ? 1 : -1, false));
        }
        calls.add(new Call("replay()", Caller::replay, false));
        return calls;
    }

    private static int refusedIn(String name, Script.World world, List<Call> calls) {
        int refused = 0;
        for (Call call : calls) {
            for (int state = 5; state < 9; state++) {
                Caller x = new Caller(state);
                world.make(x);
                if (call.isRefused(call.asked.of(x))) {
                    refused++;
                    Probe.unchangedFrom(state, call.name + " in " + name, world, y -> call.asked.of(y));
                }
            }
        }
        return refused;
    }

    private static void classes(Caller x) {
        x.type(0, 1, 2);
        x.type(1, 3, 0);
        Check.draftAll(x, "a(1)");
    }

    private static void book(Caller x) {
        classes(x);
        x.operation(0, 1, 0);
        x.operation(0, 2, 0);
        x.operation(4, 1, 1);
        x.operation(7, 1, 0);
        x.operation(6, 1, 0);
        x.literal(5);
        for (int i = 0; i < 25; i++) {
            x.step();
        }
    }

    /** Four classes, ten operations, eight literals, forty entries and two hundred characters. */
    private static void full(Caller x) {
        x.type(0, 0, 0);
        x.type(1, 1, 2);
        x.type(0, 2, 2);
        x.type(2, 4, 1);
        for (int i = 0; i < 10; i++) {
            x.operation(i < 8 ? 0 : i, 1 + i % 4, 1);
        }
        for (int v = 2; v < 7; v++) {
            x.literal(v);
        }
        for (int i = 0; i < 200; i++) {
            x.step();
        }
        Check.due("entries of a full book", x.entries(), 40);
        Check.draftAll(x, "a(1)=o");
        for (int letters = 6; letters < 198; letters += 8) {
            x.draft(Check.pack("oooooooo"));
        }
        Check.due("two letters more", x.draft(Check.pack("oo")), true);
        Check.due("a letter too many", x.draft('o'), false);
    }

    /** So that a world that never refuses some call does not go unseen. */
    private static void everyKindOfCallWasRefused(List<Call> calls) {
        String[] kinds = {"type", "operation", "literal", "seek", "shorten", "entry", "statement", "text", "draft",
            "replay"};
        Caller x = new Caller(7);
        full(x);
        for (String kind : kinds) {
            int refused = 0;
            for (Call call : calls) {
                refused += call.name.startsWith(kind) && call.isRefused(call.asked.of(x)) ? 1 : 0;
            }
            Check.due(kind + " was refused", refused > 0, true);
        }
    }
}
