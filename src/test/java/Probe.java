/**
 * Holds an explorer that got calls more against one that did not get them: what both show, and how
 * both go on from there. So it sees what a call leaves behind where no single call would show it.
 */
final class Probe {
    private static final String[] TEXTS = texts();

    private Probe() {
    }

    /** Calls that show which operations there are, what their classes extend, and their senses and marks. */
    private static String[] texts() {
        StringBuilder all = new StringBuilder();
        for (char p = 'a'; p <= 'j'; p++) {
            for (String ending : new String[] {"(101)!1", "(1)?1", "(1)" + p + "(1)?3"}) {
                all.append(p).append(ending).append(' ');
            }
            for (char q = 'a'; q <= 'j'; q++) {
                for (String ending : new String[] {"(1)=o", "(v0)=1", "(v0,n)=o"}) {
                    all.append(p).append("(1)").append(q).append(ending).append(' ');
                }
            }
        }
        return all.toString().trim().split(" ");
    }

    /** Checks that the calls of the second kind leave no trace. */
    static void unchanged(String what, Script.World made, Script.World more) {
        unchangedFrom(7, what, made, more);
        unchangedFrom(-1234568, what, made, more);
    }

    static void unchangedFrom(int state, String what, Script.World made, Script.World more) {
        Caller x = new Caller(state);
        Caller y = new Caller(state);
        made.make(x);
        made.make(y);
        x.keepQuestions(true);
        more.make(x);
        x.keepQuestions(false);
        same(what + ", what is seen then", look(x), look(y));
        // A class more is asked for in one half of the cases alone: it might be refused, and leave a trace itself.
        boolean withClass = state % 2 != 0;
        same(what + ", what comes then", goOn(x, withClass), goOn(y, withClass));
    }

    private static void same(String what, String got, String want) {
        int at = 0;
        while (at < got.length() && at < want.length() && got.charAt(at) == want.charAt(at)) {
            at++;
        }
        int from = Math.max(0, at - 30);
        Check.due(what, from(got, from), from(want, from));
    }

    private static String from(String text, int from) {
        return text.substring(from, Math.min(text.length(), from + 80));
    }

    /** All that can be asked; nothing changes by it. */
    static String look(Caller x) {
        StringBuilder seen = new StringBuilder();
        seen.append("state ").append(x.state()).append(" replay ").append(x.replay());
        seen.append(" entries ").append(x.entries());
        for (int e = 0; e < x.entries(); e++) {
            seen.append(" ; ").append(e).append(' ').append(Check.textOf(x, e));
            for (int what = 0; what < 5; what++) {
                seen.append(' ').append(x.entry(e, what));
            }
            for (int k = 0; k < x.entry(e, 2); k++) {
                for (int what = 0; what < 5; what++) {
                    seen.append(' ').append(x.statement(e, k, what));
                }
            }
        }
        return seen.toString();
    }

    /** Uses the explorer up, so that what cannot be asked shows too. */
    private static String goOn(Caller x, boolean withClass) {
        StringBuilder seen = new StringBuilder();
        x.draft(Check.pack("=o"));
        seen.append("with =o ").append(x.replay());
        int letters = 0;
        while (letters < 300 && x.draft('z')) {
            letters++;
        }
        seen.append(" letters ").append(letters);
        if (withClass) {
            seen.append(" type ").append(x.type(0, 1, 2));
        }
        for (int c = 0; c < 6; c++) {
            seen.append(" of ").append(c).append(' ').append(x.operation(0, c, 0));
            seen.append(' ').append(x.operation(4, 1, c));
        }
        for (int v = 40; v < 50; v++) {
            seen.append(" literal ").append(x.literal(v));
        }
        for (String text : TEXTS) {
            Check.draftAll(x, text);
            seen.append(' ').append(text).append(' ').append(x.replay());
        }
        for (int i = 0; i < 80; i++) {
            seen.append(" step ").append(x.step());
        }
        return seen.append(' ').append(look(x)).toString();
    }
}
