/**
 * Holds an explorer that got calls more against one that did not get them: what both show, and how
 * both go on from there. So it sees what a call leaves behind where no single call would show it.
 */
final class Probe {
    private static final String[] TEXTS = {"a(1)=o", "b(1)=o", "c(1)=o", "j(1)=o", "a(1)b(v0)=1", "a(1)b(v0)=o",
        "a(1)a(1)=o", "a(1)a(1)?3", "a(1)b(1)=o", "a(1)b(1)?2", "a(1)?1", "a(101)!1"};

    private Probe() {
    }

    /** Checks that the calls of the second kind leave no trace. */
    static void unchanged(String what, Script.World made, Script.World more) {
        for (int state : new int[] {7, -1234567}) {
            CallExplorer x = new CallExplorer(state);
            CallExplorer y = new CallExplorer(state);
            made.make(x);
            made.make(y);
            more.make(x);
            same(what + ", what is seen then", look(x), look(y));
            same(what + ", what comes then", goOn(x), goOn(y));
        }
    }

    private static void same(String what, String got, String want) {
        int at = 0;
        while (at < got.length() && at < want.length() && got.charAt(at) == want.charAt(at)) {
            at++;
        }
        int from = Math.max(0, at - 30);
        Check.due(what, from(got, from), from(want, from));
    }

    private static String from(String text, int from) {
        return text.substring(from, Math.min(text.length(), from + 80));
    }

    /** All that can be asked; nothing changes by it. */
    static String look(CallExplorer x) {
        StringBuilder seen = new StringBuilder();
        seen.append("state ").append(x.state()).append(" replay ").append(x.replay());
        seen.append(" entries ").append(x.entries());
        for (int e = 0; e < x.entries(); e++) {
            seen.append(" ; ").append(e).append(' ').append(Check.textOf(x, e));
            for (int what = 0; what < 5; what++) {
                seen.append(' ').append(x.entry(e, what));
            }
            for (int k = 0; k < x.entry(e, 2); k++) {
                for (int what = 0; what < 5; what++) {
                    seen.append(' ').append(x.statement(e, k, what));
                }
            }
        }
        return seen.toString();
    }

    /** Uses the explorer up, so that what cannot be asked shows too. */
    private static String goOn(CallExplorer x) {
        StringBuilder seen = new StringBuilder();
        x.draft(Check.pack("=o"));
        seen.append("with =o ").append(x.replay());
        int letters = 0;
        while (letters < 300 && x.draft('z')) {
            letters++;
        }
        seen.append(" letters ").append(letters).append(" type ").append(x.type(0, 1, 2));
        for (int c = 0; c < 6; c++) {
            seen.append(" of ").append(c).append(' ').append(x.operation(0, c, 0));
            seen.append(' ').append(x.operation(4, 1, c));
        }
        for (int v = 40; v < 50; v++) {
            seen.append(" literal ").append(x.literal(v));
        }
        for (String text : TEXTS) {
            Check.draftAll(x, text);
            seen.append(' ').append(text).append(' ').append(x.replay());
        }
        for (int i = 0; i < 80; i++) {
            seen.append(" step ").append(x.step());
        }
        return seen.append(' ').append(look(x)).toString();
    }
}
