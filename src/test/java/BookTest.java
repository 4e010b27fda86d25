/** Promises 8 to 11: entries, entry, statement and text. */
final class BookTest {
    private static final int LEAST = Integer.MIN_VALUE;
    private static final int GREATEST = Integer.MAX_VALUE;

    public static void main(String[] args) {
        emptyBook();
        entriesAreCounted();
        noSuchEntry();
        noSuchWhat();
        noSuchStatement();
        noSuchCharacter();
        entryOfEachOutcome();
        numberOfEachEntry();
        typeOfEachEntry();
        statementOfOneArgument();
        statementOfTwoArguments();
        lettersOfOperations();
        literalsInDigits();
        endsOfTexts();
        longestText();
        textAgreesWithStatements();
        askingChangesNothing();
        Check.end();
    }

    private static void emptyBook() {
        Caller x = new Caller(1);
        Check.due("entries()", x.entries(), 0);
        for (int e : new int[] {LEAST, -1, 0, 1, 39, 40, GREATEST}) {
            Check.due("entry(" + e + ", 0)", x.entry(e, 0), -1);
            Check.due("statement(" + e + ", 0, 0)", x.statement(e, 0, 0), -2);
            Check.due("text(" + e + ", 0)", x.text(e, 0), -2);
            Check.due("text(" + e + ", -1)", x.text(e, -1), -2);
        }
    }

    /** Ten operations with eight literals: eighty calls, of which forty are entered. */
    private static Caller wide(int state, int... literals) {
        Caller x = new Caller(state);
        x.type(0, 0, 0);
        for (int i = 0; i < 10; i++) {
            x.operation(0, 1, 0);
        }
        for (int literal : literals) {
            x.literal(literal);
        }
        return x;
    }

    /** How many entries the book has: each new one counts, up to 40, and no other answer does. */
    private static void entriesAreCounted() {
        Caller x = wide(4, 2, 3, 4, 5, 6);
        int made = 0;
        for (int i = 0; i < 200; i++) {
            made += x.step() >= 0 ? 1 : 0;
            Check.due("entries()", x.entries(), made);
        }
        Check.due("entries() of a full book", x.entries(), 40);
        Check.due("entry(39, 2)", x.entry(39, 2), 1);
        Check.due("entry(40, 2)", x.entry(40, 2), -1);
        Check.due("statement(39, 0, 1)", x.statement(39, 0, 1), 1);
        Check.due("statement(40, 0, 1)", x.statement(40, 0, 1), -2);
        Check.due("text(39, 1)", x.text(39, 1), '(');
        Check.due("text(40, 1)", x.text(40, 1), -2);
    }

    /** Entries of every outcome: operations a to h. */
    private static Caller world(int state) {
        Caller x = new Caller(state);
        x.type(0, 1, 0);
        x.type(1, 2, 3);
        x.operation(0, 1, 0);
        x.operation(0, 2, 0);
        x.operation(2, 1, 0);
        x.operation(4, 1, 2);
        x.operation(5, 1, 2);
        x.operation(6, 2, 0);
        x.operation(7, 1, 0);
        x.operation(9, 2, 1);
        x.literal(-42);
        for (int i = 0; i < 50; i++) {
            x.step();
        }
        return x;
    }

    private static void noSuchEntry() {
        for (int state = 0; state < 5; state++) {
            Caller x = world(state);
            int count = x.entries();
            Check.due("some entries, but no full book", count > 5 && count < 40, true);
            for (int e : new int[] {LEAST, -40, -2, -1, count, count + 1, 39, 40, GREATEST}) {
                for (int what = -1; what < 6; what++) {
                    Check.due("entry(" + e + ", " + what + ")", x.entry(e, what), -1);
                    Check.due("statement(" + e + ", 0, " + what + ")", x.statement(e, 0, what), -2);
                    Check.due("text(" + e + ", " + what + ")", x.text(e, what), -2);
                }
            }
            Check.due("entry(0, 2)", x.entry(0, 2), 1);
            Check.due("the last entry has statements", x.entry(count - 1, 2) > 0, true);
            Check.due("the last entry has a text", x.text(count - 1, 1), '(');
        }
    }

    private static void noSuchWhat() {
        Caller x = world(3);
        for (int what : new int[] {LEAST, -2, -1, 5, 6, GREATEST}) {
            for (int e = 0; e < x.entries(); e++) {
                Check.due("entry(" + e + ", " + what + ")", x.entry(e, what), -1);
                Check.due("statement(" + e + ", 0, " + what + ")", x.statement(e, 0, what), -2);
            }
        }
    }

    private static void noSuchStatement() {
        Caller x = world(3);
        for (int e = 0; e < x.entries(); e++) {
            int size = x.entry(e, 2);
            for (int k : new int[] {LEAST, -2, -1, size, size + 1, 10, 11, GREATEST}) {
                for (int what = 0; what < 5; what++) {
                    Check.due("statement(" + e + ", " + k + ", " + what + ")", x.statement(e, k, what), -2);
                }
            }
            Check.due("the first statement of " + e, x.statement(e, 0, 0) >= 0, true);
            Check.due("the last statement of " + e, x.statement(e, size - 1, 0) >= 0, true);
        }
        Script.run("one statement fewer after shorten", y -> {
            y.type(0, 1, 2);
            y.operation(0, 1, 0);
            y.operation(2, 1, 0);
        },
            "0/2 -/3 0/3 => 0 a(0)=o fresh",
            "1/2 x/6 -/3 0/1 => 1 a(0)b(v0)=0 fresh",
            "0/2 0/3 0/1 => 2 a(0)b(v0)a(v1)?3",
            "statement 2 2 0 => 0",
            "statement 2 3 0 => -2",
            "shorten 2 => 2 a(0)a(0)?3",
            "statement 2 1 0 => 0",
            "statement 2 2 0 => -2",
            "entry 2 2 => 2");
    }

    /** With i = -1 how many it has; -2 if there is no such character. */
    private static void noSuchCharacter() {
        Caller x = world(3);
        for (int e = 0; e < x.entries(); e++) {
            int length = x.text(e, -1);
            for (int i : new int[] {LEAST, -3, -2, length, length + 1, 200, 201, GREATEST}) {
                Check.due("text(" + e + ", " + i + ")", x.text(e, i), -2);
            }
            Check.due("first character of " + e, x.text(e, 0), 'a' + x.statement(e, 0, 0));
            Check.due("last character of " + e, x.text(e, length - 1) >= '-', true);
        }
        Caller one = Script.run("one text", y -> {
            y.type(0, 0, 0);
            y.operation(0, 1, 0);
        }, "0/1 -/3 2/3 => 0 a(-1)=o fresh");
        int[] due = {7, 'a', '(', '-', '1', ')', '=', 'o', -2};
        for (int i = -1; i < 8; i++) {
            Check.due("text(0, " + i + ") of a(-1)=o", one.text(0, i), due[i + 1]);
        }
    }

    private static void due(Caller x, int e, int... want) {
        for (int what = 0; what < want.length; what++) {
            Check.due("entry(" + e + ", " + what + ")", x.entry(e, what), want[what]);
        }
    }

    /** What 0 its outcome, 1 its trouble or fault (0 if it has none), 2 how many statements. */
    private static void entryOfEachOutcome() {
        Caller x = Script.run("each outcome", y -> {
            y.type(0, 0, 0);
            y.operation(0, 1, 0);
            y.operation(6, 1, 0);
            y.operation(7, 1, 0);
        },
            "0/3 -/3 1/3 => 0 a(1)=o fresh",
            "1/3 x/6 -/3 0/1 -/3 0/3 => 1 a(1)b(v0,0)!4",
            "2/3 x/6 -/3 0/1 => 2 a(1)c(v0)?4",
            "1/3 x/6 -/3 0/1 -/3 2/3 => 3 a(1)b(v0,-1)=-1 fresh",
            "0/3 0/3 0/1 => 4 a(1)b(v0,-1)a(v1)=o fresh",
            "1/3 x/6 -/3 0/2 x/3 1/3 => 5 a(1)b(v0,1)=1 fresh",
            "0/3 0/3 1/2 => 6 a(1)b(v0,1)a(v1)=o stale");
        due(x, 0, 0, 0, 1, 1, 0);
        due(x, 1, 2, 4, 2, 0, 0);
        due(x, 2, 3, 4, 2, 0, 0);
        due(x, 3, 0, 0, 2, 0, -1);
        due(x, 4, 0, 0, 3, 1, 0);
        due(x, 5, 0, 0, 2, 0, 1);
        due(x, 6, 1, 0, 3, 1, 0);
    }

    /** 4 the number that its last statement gave (0 if it gave none); then -1 may be the number, too. */
    private static void numberOfEachEntry() {
        Caller x = Script.run("numbers", y -> {
            y.type(0, 1, 2);
            y.operation(0, 1, 0);
            y.operation(2, 1, 0);
            y.literal(-100);
            y.literal(100);
        },
            "0/2 -/3 3/5 => 0 a(-100)=o fresh",
            "1/2 x/6 -/3 0/1 => 1 a(-100)b(v0)=-100 fresh",
            "0/2 x/3 4/5 => 2 a(100)=o fresh",
            "1/2 x/6 -/3 1/2 => 3 a(100)b(v0)=100 fresh",
            "0/2 x/3 2/5 => 4 a(-1)=o fresh",
            "1/2 x/6 -/3 2/3 => 5 a(-1)b(v0)=-1 fresh");
        due(x, 0, 0, 0, 1, 1, 0);
        due(x, 1, 0, 0, 2, 0, -100);
        due(x, 3, 0, 0, 2, 0, 100);
        due(x, 5, 0, 0, 2, 0, -1);
        Caller faulty = Script.run("a faulty one without trouble", y -> {
            y.type(0, 1, 2);
            y.operation(0, 1, 0);
            y.operation(9, 1, 1);
            y.operation(8, 1, 0);
        },
            "0/3 -/3 1/3 => 0 a(1)=o fresh",
            "1/3 x/6 -/3 0/1 x/6 x/3 0/1 => 1 a(1)a(1)b(v0,v1)?3",
            "2/3 x/6 -/3 0/1 => 2 a(1)c(v0)=1 fresh",
            "1/3 x/6 -/3 0/1 x/6 0/3 => 3 a(1)b(v0,v0)=1 stale");
        due(faulty, 1, 3, 3, 3, 0, 1);
        due(faulty, 3, 1, 0, 2, 0, 1);
    }

    /** 3 its type: that of its last statement's result, also when that ended with trouble. */
    private static void typeOfEachEntry() {
        Caller x = Script.run("types", y -> {
            y.type(0, 0, 0);
            y.type(1, 0, 0);
            y.type(0, 0, 0);
            y.type(0, 0, 0);
            y.operation(0, 4, 0);
            y.operation(0, 2, 0);
            y.operation(3, 1, 0);
            y.operation(5, 2, 3);
            y.literal(101);
        },
            "0/4 -/3 1/4 => 0 a(1)=o fresh",
            "0/4 -/3 3/4 => 1 a(101)!1",
            "1/4 -/3 1/4 => 2 b(1)=o fresh",
            "2/4 x/6 -/3 0/1 -/3 1/4 => 3 b(1)c(v0,1)=o fresh",
            "3/4 x/6 -/3 0/1 => 4 b(1)d(v0)=n fresh");
        due(x, 0, 0, 0, 1, 4, 0);
        due(x, 1, 2, 1, 1, 4, 0);
        due(x, 2, 0, 0, 1, 2, 0);
        due(x, 3, 0, 0, 2, 1, 0);
        due(x, 4, 0, 0, 2, 3, 0);
    }

    private static void statement(Caller x, int e, int k, int... want) {
        for (int what = 0; what < 5; what++) {
            Check.due("statement(" + e + ", " + k + ", " + what + ")", x.statement(e, k, what), want[what]);
        }
    }

    /** -1 if there is none, and 0 for none; then -2 may be a literal, too. */
    private static void statementOfOneArgument() {
        Caller x = Script.run("one argument", y -> {
            y.type(0, 0, 0);
            y.operation(0, 1, 0);
            y.operation(2, 1, 0);
            y.literal(-2);
            y.literal(LEAST);
            y.literal(GREATEST);
        },
            "0/2 -/3 3/6 => 0 a(-2)=o fresh",
            "1/2 x/6 -/3 0/1 => 1 a(-2)b(v0)=-2 fresh",
            "0/2 x/3 4/6 => 2 a(-2147483648)!1",
            "0/2 x/3 5/6 => 3 a(2147483647)!1",
            "0/2 0/3 0/1 => 4 a(-2)b(v0)a(v1)=o stale");
        statement(x, 0, 0, 0, 1, -2, -1, 0);
        statement(x, 1, 0, 0, 1, -2, -1, 0);
        statement(x, 1, 1, 1, 0, 0, -1, 0);
        statement(x, 2, 0, 0, 1, LEAST, -1, 0);
        statement(x, 3, 0, 0, 1, GREATEST, -1, 0);
        statement(x, 4, 2, 0, 0, 1, -1, 0);
    }

    /** 0 a variable, 1 a literal, 2 null; the variable's number or the literal, 0 for null. */
    private static void statementOfTwoArguments() {
        Caller x = Script.run("two arguments", y -> {
            y.type(0, 0, 0);
            y.operation(0, 1, 0);
            y.operation(9, 1, 1);
            y.operation(3, 1, 0);
        },
            "0/3 -/3 1/3 => 0 a(1)=o fresh",
            "1/3 x/6 -/3 0/1 0/6 => 1 a(1)b(v0,n)=0 fresh",
            "2/3 x/6 -/3 0/1 x/3 2/3 => 2 a(1)c(v0,-1)=o fresh",
            "1/3 x/6 -/3 0/2 x/6 x/3 1/2 => 3 a(1)a(1)c(v1,-1)b(v0,v2)=0 stale",
            "2/3 x/6 -/3 0/2 0/3 0/1 => 4 a(1)a(1)b(v1,n)c(v0,v2)=o stale");
        statement(x, 1, 1, 1, 0, 0, 2, 0);
        statement(x, 2, 1, 2, 0, 0, 1, -1);
        statement(x, 3, 2, 2, 0, 1, 1, -1);
        statement(x, 3, 3, 1, 0, 0, 0, 2);
        statement(x, 4, 2, 1, 0, 1, 2, 0);
        statement(x, 4, 3, 2, 0, 0, 0, 2);
    }

    /** The letter of its operation (a for 0, b for 1, ..), up to j. */
    private static void lettersOfOperations() {
        for (int i = 0; i < 10; i++) {
            Caller x = Script.run("letter " + i, y -> {
                y.type(0, 0, 0);
                for (int o = 0; o < 10; o++) {
                    y.operation(0, 1, 0);
                }
            }, i + "/10 -/3 1/3 => 0 " + "abcdefghij".charAt(i) + "(1)=o fresh");
            Check.due("operation " + i, x.statement(0, 0, 0), i);
        }
    }

    /** A literal in decimal digits (with - before them if it is below 0). */
    private static void literalsInDigits() {
        int[] literals = {LEAST, GREATEST, 10, -10, 9, -9, 99, 100, -100, 101, 1000, 9999, 10000, 99999, 100000, 999999,
            1000000, 9999999, 10000000, 99999999, 100000000, 999999999, 1000000000, -1000000000, 1234567890};
        for (int literal : literals) {
            boolean good = literal >= -100 && literal <= 100;
            Script.run("literal " + literal, y -> {
                y.type(0, 0, 0);
                y.operation(0, 1, 0);
                y.literal(literal);
            }, "0/1 -/3 3/4 => 0 a(" + literal + ")" + (good ? "=o fresh" : "!1"));
        }
    }

    /** = and the result: a number in digits, n for null, o for an object; ! and trouble; ? and fault. */
    private static void endsOfTexts() {
        Script.run("ends", y -> {
            y.type(0, 0, 0);
            y.operation(0, 1, 0);
            y.operation(2, 1, 0);
            y.operation(5, 1, 1);
            y.operation(7, 1, 0);
        },
            "0/4 -/3 0/3 => 0 a(0)=o fresh",
            "1/4 x/6 -/3 0/1 => 1 a(0)b(v0)=0 fresh",
            "2/4 x/6 -/3 0/1 => 2 a(0)c(v0)=n fresh",
            "3/4 x/6 -/3 0/2 => 3 a(0)d(v0)?4",
            "0/4 x/3 2/3 => 4 a(-1)=o fresh",
            "1/4 x/6 -/3 2/3 => 5 a(-1)b(v0)=-1 fresh",
            "2/4 x/6 -/3 2/3 => 6 a(-1)c(v0)=n stale");
    }

    /** Ten statements with the longest literals that there are. */
    private static void longestText() {
        int longest = 0;
        int most = 0;
        for (int state = 0; state < 300; state++) {
            Caller x = new Caller(state);
            x.type(0, 0, 0);
            x.operation(0, 1, 0);
            x.operation(6, 1, 0);
            x.operation(3, 1, 0);
            x.operation(4, 1, 1);
            x.literal(LEAST);
            x.literal(-2147483647);
            x.literal(-100);
            for (int i = 0; i < 150; i++) {
                x.step();
            }
            for (int e = 0; e < x.entries(); e++) {
                most = Math.max(most, x.entry(e, 2));
                longest = Math.max(longest, x.text(e, -1));
                Check.due("text of statements", Check.textOf(x, e).startsWith(calls(x, e)), true);
                Check.replays(x, Check.textOf(x, e), 1);
            }
        }
        Check.due("ten statements were seen", most, 10);
        Check.due("a long text was seen", longest > 90 && longest <= 200, true);
    }

    private static void textAgreesWithStatements() {
        boolean[] ends = new boolean[128];
        for (int state = 0; state < 50; state++) {
            Caller x = world(state);
            for (int e = 0; e < x.entries(); e++) {
                String text = Check.textOf(x, e);
                String calls = calls(x, e);
                Check.due("calls of " + text, text.startsWith(calls), true);
                String end = text.substring(calls.length());
                ends[end.charAt(0)] = true;
                ends[end.charAt(1)] = true;
                Check.due("end of " + text, end, endOf(x, e, end));
            }
        }
        Check.due("all ends were seen", ends['='] && ends['!'] && ends['?'] && ends['n'] && ends['o'], true);
    }

    private static String calls(Caller x, int e) {
        StringBuilder calls = new StringBuilder();
        for (int k = 0; k < x.entry(e, 2); k++) {
            String second = x.statement(e, k, 3) < 0 ? "" : "," + argument(x, e, k, 3);
            calls.append((char) ('a' + x.statement(e, k, 0)));
            calls.append("(").append(argument(x, e, k, 1)).append(second).append(")");
        }
        return calls.toString();
    }

    private static String argument(Caller x, int e, int k, int what) {
        int content = x.statement(e, k, what + 1);
        return new String[] {"v" + content, "" + content, "n"}[x.statement(e, k, what)];
    }

    private static String endOf(Caller x, int e, String end) {
        switch (x.entry(e, 0)) {
            case 2:
                return "!" + x.entry(e, 1);
            case 3:
                return "?" + x.entry(e, 1);
            default:
                Check.due("detail of a good entry", x.entry(e, 1), 0);
                return x.entry(e, 3) == 0 ? "=" + x.entry(e, 4) : end.equals("=n") ? "=n" : "=o";
        }
    }

    private static void askingChangesNothing() {
        Script.World world = y -> {
            y.type(0, 1, 2);
            y.operation(0, 1, 0);
            y.operation(7, 1, 0);
            for (int i = 0; i < 12; i++) {
                y.step();
            }
            Check.draftAll(y, "a(5)");
        };
        Probe.unchanged("asking", world, y -> {
            Probe.look(y);
            for (int n : new int[] {LEAST, -2, -1, 0, 1, 5, 40, GREATEST}) {
                y.entry(n, n);
                y.statement(n, n, n);
                y.statement(0, n, 0);
                y.text(n, n);
                y.text(0, n);
            }
            y.entries();
            y.state();
        });
    }
}
