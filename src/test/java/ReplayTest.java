/** Promise 13: replay. What the runs themselves come to is the matter of OperationTest and EqualTest. */
final class ReplayTest {
    private static final String[] ENDS = {"=0", "=1", "=-1", "=7", "=n", "=o", "!1", "!2", "!3", "!4", "!5",
        "?1", "?2", "?3", "?4"};

    public static void main(String[] args) {
        onlyItsOwnEnd();
        invalidHasNoEnd();
        freshAndStaleAreAlike();
        ofAnySequence();
        notEmpty();
        withoutBlanks();
        nothingLacksAndNothingIsMore();
        numbersAreInts();
        noZerosBeforeDigits();
        noMinusBeforeZero();
        oneEnd();
        digitsOfTroubleAndFault();
        operationsThatThereAre();
        variablesOfEarlierStatements();
        variablesOfTheRightType();
        literalsAndNullInTheirPlaces();
        asManyArgumentsAsThereAre();
        oneToTenStatements();
        readToItsEndBeforeItRuns();
        changesNothing();
        Check.end();
    }

    /** Objects that are equal to themselves alone: operations a to j. */
    private static Caller plain() {
        Caller x = new Caller(0);
        makePlain(x);
        return x;
    }

    private static void makePlain(Caller x) {
        x.type(0, 0, 0);
        x.type(1, 0, 0);
        x.operation(0, 1, 0);
        x.operation(0, 2, 0);
        x.operation(1, 2, 1);
        x.operation(2, 1, 0);
        x.operation(3, 1, 0);
        x.operation(4, 1, 1);
        x.operation(5, 1, 2);
        x.operation(6, 1, 0);
        x.operation(7, 1, 0);
        x.operation(8, 1, 0);
    }

    private static void all(Caller x, int want, String... texts) {
        for (String text : texts) {
            Check.replays(x, text, want);
        }
    }

    private static void endsWith(Caller x, String calls, String due) {
        for (String end : ENDS) {
            Check.replays(x, calls + end, end.equals(due) ? 1 : 0);
        }
        Check.replays(x, calls + due, 1);
    }

    /** 1 if its end is what comes of it, 0 if another one does (also a number for an object or null). */
    private static void onlyItsOwnEnd() {
        Caller x = plain();
        endsWith(x, "a(1)", "=o");
        endsWith(x, "a(0)", "=o");
        endsWith(x, "a(1)g(v0)", "=n");
        endsWith(x, "a(0)d(v0)", "=0");
        endsWith(x, "a(1)d(v0)", "=1");
        endsWith(x, "a(-1)d(v0)", "=-1");
        endsWith(x, "a(7)d(v0)", "=7");
        endsWith(x, "a(-100)d(v0)", "=-100");
        endsWith(x, "a(101)", "!1");
        endsWith(x, "a(1)f(v0,v0)", "!2");
        endsWith(x, "a(1)a(2)f(v0,v1)g(v0)", "!3");
        endsWith(x, "a(1)h(v0,0)", "!4");
        endsWith(x, "a(1)i(v0)", "?4");
        all(x, 0, "a(7)d(v0)=70", "a(7)d(v0)=-7", "a(7)d(v0)=2147483647", "a(7)d(v0)=-2147483648");
        Caller faulty = new Caller(0);
        faulty.type(0, 1, 2);
        faulty.type(0, 3, 0);
        faulty.type(2, 4, 0);
        faulty.type(2, 1, 0);
        for (int c = 1; c <= 4; c++) {
            faulty.operation(0, c, 0);
        }
        endsWith(faulty, "c(1)", "?1");
        endsWith(faulty, "b(1)d(1)", "?2");
        endsWith(faulty, "a(1)a(1)", "?3");
    }

    /** Or it is invalid: 0. */
    private static void invalidHasNoEnd() {
        Caller x = plain();
        String[] invalid = {"d(n)", "a(1)g(v0)d(v1)", "a(1)d(n)a(2)", "f(n,n)", "i(n)", "a(1)g(v0)i(v1)"};
        for (String calls : invalid) {
            for (String end : ENDS) {
                Check.replays(x, calls + end, 0);
            }
        }
    }

    /** Fresh or stale as the book is now: these ends are alike. */
    private static void freshAndStaleAreAlike() {
        Caller x = Script.run("a book", y -> {
            y.type(0, 0, 0);
            y.operation(0, 1, 0);
            y.operation(2, 1, 0);
            y.operation(5, 1, 1);
        },
            "0/3 -/3 1/3 => 0 a(1)=o fresh",
            "1/3 x/6 -/3 0/1 => 1 a(1)b(v0)=1 fresh",
            "2/3 x/6 -/3 0/1 => 2 a(1)c(v0)=n fresh",
            "0/3 0/3 0/1 => 3 a(1)b(v0)a(v1)=o stale");
        all(x, 1, "a(1)=o", "a(1)b(v0)=1", "a(1)c(v0)=n", "a(1)b(v0)a(v1)=o", "a(1)a(1)=o", "a(2)=o", "a(2)b(v0)=2");
        all(x, 0, "a(1)=n", "a(1)b(v0)=o", "a(1)c(v0)=1", "a(2)=1");
    }

    /** Of any sequence: its literals need not be known, and it need not be one that a step could grow. */
    private static void ofAnySequence() {
        Caller x = plain();
        all(x, 1, "a(77)=o", "a(77)a(78)a(79)d(v0)=77", "a(3)d(v0)d(v0)d(v0)=3", "a(5)e(v0,6)d(v0)=11");
    }

    private static void notEmpty() {
        Caller x = plain();
        Check.due("replay of no draft", x.replay(), -1);
        x.draft(0);
        Check.due("replay of an empty draft", x.replay(), -1);
        all(x, -1, "=o", "=n", "=0", "!1", "?1", "=", "a", "o");
    }

    private static void withoutBlanks() {
        Caller x = plain();
        for (String text : new String[] {"a(1)=o", "a(-1)d(v0)=-1", "a(12)f(v0,n)=o", "a(101)!1", "a(1)i(v0)?4"}) {
            Check.replays(x, text, 1);
            for (int i = 0; i <= text.length(); i++) {
                Check.replays(x, text.substring(0, i) + " " + text.substring(i), -1);
            }
        }
    }

    /** No beginning of a text is one, and nothing may stand before it or behind it. */
    private static void nothingLacksAndNothingIsMore() {
        Caller x = plain();
        for (String text : new String[] {"a(1)=o", "a(1)g(v0)=n", "a(12)f(v0,n)=o", "a(101)!1", "a(1)i(v0)?4"}) {
            Check.replays(x, text, 1);
            for (int i = 1; i < text.length(); i++) {
                Check.replays(x, text.substring(0, i), -1);
                Check.replays(x, text.substring(i), -1);
            }
            for (char letter = 32; letter < 127; letter++) {
                Check.replays(x, letter + text, -1);
                Check.replays(x, text + letter, -1);
            }
        }
        all(x, -1, "a[1]=o", "a{1}=o", "a(1(=o", "a)1)=o", "a(1),a(1)=o", "a(1);a(1)=o", "(1)=o", "a1=o", "a(1)=oa(1)");
    }

    private static void numbersAreInts() {
        Caller x = plain();
        all(x, 1, "a(2147483647)!1", "a(-2147483648)!1", "a(1)h(v0,2147483647)=0", "a(1)h(v0,-2147483648)=0");
        all(x, 1, "a(1000000000)!1", "a(-1000000000)!1");
        all(x, -1, "a(2147483648)!1", "a(-2147483649)!1", "a(1)h(v0,2147483648)=0", "a(1)h(v0,-2147483649)=0");
        all(x, 0, "a(1)d(v0)=2147483647", "a(1)d(v0)=-2147483648", "a(1)=2147483647");
        all(x, -1, "a(1)d(v0)=2147483648", "a(1)d(v0)=-2147483649", "a(1)=2147483648");
        String digits = "9999999999";
        for (int i = 0; i < 8; i++) {
            all(x, -1, "a(" + digits + ")!1", "a(-" + digits + ")!1", "a(1)d(v0)=" + digits);
            all(x, -1, "a(1)d(v0)=-" + digits, "a(1)d(v" + digits + ")=1");
            digits += "99999999";
        }
        // These are 1 if they are cut to 32 or 64 bits.
        all(x, -1, "a(4294967297)=o", "a(-4294967295)=o", "a(18446744073709551617)=o", "a(1)d(v0)=4294967297");
        all(x, -1, "a(1)d(v0)=18446744073709551617", "a(1)d(v4294967296)=1", "a(1)d(v18446744073709551616)=1");
        all(x, -1, "a(+1)=o", "a(--1)=o", "a(-)=o", "a()=o", "a(1-)=o", "a(1.0)=o", "a(1)d(v0)=+1", "a(1)d(v0)=-");
        all(x, -1, "a(x)=o", "a(1a)=o", "a(1)d(v0)=1a", "a(1)d(v0)=--1", "a(1)d(v0)=1-1", "a(1)d(v0)=");
    }

    private static void noZerosBeforeDigits() {
        Caller x = plain();
        all(x, 1, "a(0)=o", "a(10)=o", "a(100)=o", "a(-10)=o", "a(0)d(v0)=0", "a(100)d(v0)=100");
        all(x, -1, "a(00)=o", "a(01)=o", "a(-01)=o", "a(000)=o", "a(010)=o", "a(1)e(v0,01)=o", "a(1)e(v0,00)=o");
        all(x, -1, "a(0)d(v0)=00", "a(1)d(v0)=01", "a(-1)d(v0)=-01", "a(1)d(v00)=1", "a(1)a(1)d(v01)=1");
        all(x, -1, "a(00000000000000000001)=o", "a(101)!01", "a(1)i(v0)?04");
    }

    private static void noMinusBeforeZero() {
        Caller x = plain();
        all(x, -1, "a(-0)=o", "a(-00)=o", "a(1)e(v0,-0)=o", "a(0)d(v0)=-0", "a(1)d(v-0)=1", "a(1)d(v-1)=1");
        all(x, 1, "a(-1)=o", "a(1)e(v0,-1)=o", "a(-1)d(v0)=-1");
    }

    private static void oneEnd() {
        Caller x = plain();
        all(x, -1, "a(1)", "a(1)o", "a(1)1", "a(1)=o=o", "a(1)=o!1", "a(1)!1!1", "a(1)!1?1", "a(1)?1=o", "a(1)=oo");
        all(x, -1, "a(1)=on", "a(1)==o", "a(1)=!1", "a(1)=", "a(1)!", "a(1)?", "a(1)=o=", "a(1)=v0");
        all(x, -1, "a(1)=O", "a(1)=N");
        all(x, -1, "a(1)=oa(1)=o", "=oa(1)", "a(=o)", "a(1=o");
    }

    /** Behind ! 1 to 5, behind ? 1 to 4. */
    private static void digitsOfTroubleAndFault() {
        Caller x = plain();
        for (char letter = 32; letter < 127; letter++) {
            Check.replays(x, "a(1)!" + letter, letter >= '1' && letter <= '5' ? 0 : -1);
            Check.replays(x, "a(1)?" + letter, letter >= '1' && letter <= '4' ? 0 : -1);
            Check.replays(x, "a(101)!1" + letter, -1);
            Check.replays(x, "a(1)i(v0)?4" + letter, -1);
        }
        all(x, -1, "a(1)!-1", "a(1)?-1", "a(1)!11", "a(1)?11", "a(1)!n", "a(1)?o");
    }

    /** Operations that there are. */
    private static void operationsThatThereAre() {
        Caller x = new Caller(0);
        x.type(0, 0, 0);
        for (int made = 0; made <= 10; made++) {
            for (char letter = 32; letter < 127; letter++) {
                Check.replays(x, letter + "(1)=o", letter >= 'a' && letter < 'a' + made ? 1 : -1);
            }
            x.operation(0, 1, 0);
        }
    }

    /** A variable is the number of an earlier statement. */
    private static void variablesOfEarlierStatements() {
        Caller x = plain();
        all(x, 1, "a(1)d(v0)=1", "a(1)a(2)d(v1)=2", "a(1)a(2)d(v0)=1");
        all(x, -1, "d(v0)=1", "a(1)d(v1)=1", "a(1)d(v2)=1", "a(1)a(2)d(v2)=2", "a(1)d(v1)a(1)=o", "d(v1)a(1)=o");
        all(x, -1, "a(1)d(v)=1", "a(1)d(V0)=1", "a(1)d(v0v0)=1", "a(1)d(vv0)=1", "a(1)d(vn)=1", "a(1)d(0)=1");
        String nine = "a(1)a(2)a(3)a(4)a(5)a(6)a(7)a(8)a(9)";
        for (int v = 0; v < 9; v++) {
            Check.replays(x, nine + "d(v" + v + ")=" + (v + 1), 1);
        }
        all(x, -1, nine + "d(v9)=9", nine + "d(v10)=1", nine + "d(v11)=2", nine + "d(v99)=9");
    }

    /** A variable's type must be 0 for a number, otherwise a class that IS the argument's. */
    private static void variablesOfTheRightType() {
        Caller x = plain();
        all(x, 1, "a(1)d(v0)a(v1)=o", "a(1)d(v0)e(v0,v1)=o", "b(1)d(v0)=1", "a(1)g(v0)f(v0,v1)=o", "a(1)c(v0)c(v1)=o");
        all(x, -1, "a(1)a(v0)=o", "a(1)e(v0,v0)=o", "a(1)d(v0)d(v1)=1", "a(1)d(v0)e(v1,1)=o", "a(1)d(v0)f(v0,v1)=o");
        all(x, -1, "a(1)g(v0)a(v1)=o", "a(1)d(v0)f(v1,v0)=o", "a(1)h(v0,v0)=1");
        Caller down = new Caller(0);
        down.type(0, 0, 0);
        down.type(1, 0, 0);
        down.operation(0, 1, 0);
        down.operation(2, 2, 0);
        down.operation(0, 2, 0);
        down.operation(5, 1, 2);
        down.operation(4, 1, 1);
        all(down, -1, "a(1)b(v0)=1", "c(1)a(2)e(v0,v1)b(v2)=1");
        all(down, 1, "c(1)b(v0)=1", "a(1)c(2)e(v0,v1)d(v0)b(v3)=2");
        all(down, 0, "b(n)=1");
    }

    /** Variables, literals and null where they may stand. */
    private static void literalsAndNullInTheirPlaces() {
        Caller x = plain();
        all(x, -1, "a(n)=o", "a(1)e(v0,n)=o", "a(1)h(v0,n)=1", "a(1)d(1)=1", "a(1)c(0)=o", "a(1)f(v0,1)=o");
        all(x, -1, "a(1)f(1,v0)=o", "a(1)e(1,1)=o", "a(1)f(v0,0)=o", "a(1)f(v0,o)=o", "a(N)=o", "a(1)f(v0,N)=o");
        all(x, -1, "a(1)f(v0,nn)=o", "a(1)f(v0,n0)=o", "a(1)f(v0,-n)=o");
        all(x, 1, "a(1)f(v0,n)=o", "a(1)e(v0,1)=o");
        all(x, 0, "d(n)=1", "e(n,1)=o", "f(n,n)=o");
    }

    private static void asManyArgumentsAsThereAre() {
        Caller x = plain();
        all(x, -1, "a()=o", "a(1,1)=o", "a(1,)=o", "a(,1)=o", "a(,)=o", "a=o", "a(1)d(v0,v0)=1", "a(1)d(v0,n)=1");
        all(x, -1, "a(1)d()=1", "a(1)e(v0)=o", "a(1)e(v0,)=o", "a(1)e(,1)=o", "a(1)e(v0,1,1)=o", "a(1)e(v0,,1)=o");
        all(x, -1, "a(1)f(v0)=o", "a(1)f(v0;n)=o", "a(1)f(v0n)=o", "a(1)f(v0,n,n)=o", "a(1)f()=o");
    }

    /** 1 to 10 statements. */
    private static void oneToTenStatements() {
        Caller x = plain();
        StringBuilder calls = new StringBuilder();
        for (int size = 1; size <= 12; size++) {
            calls.append("a(").append(size).append(")");
            Check.replays(x, calls + "=o", size <= 10 ? 1 : -1);
            Check.replays(x, calls + "d(v0)=1", size < 10 ? 1 : -1);
            Check.replays(x, calls + "!1", size <= 10 ? 0 : -1);
        }
        StringBuilder wide = new StringBuilder("a(-2147483648)");
        for (int i = 1; i < 10; i++) {
            wide.append("h(v0,-2147483648)");
        }
        all(x, 1, wide + "!1");
        all(x, 0, wide + "=-2147483648");
        all(x, -1, wide + "a(1)!1");
        StringBuilder full = new StringBuilder("a(1)=o");
        while (full.length() < 200) {
            full.append('o');
        }
        Check.replays(x, full.toString(), -1);
        StringBuilder digits = new StringBuilder("a(1)=");
        while (digits.length() < 200) {
            digits.append('1');
        }
        Check.replays(x, digits.toString(), -1);
    }

    /** What ends with trouble early must be a text to its end all the same. */
    private static void readToItsEndBeforeItRuns() {
        Caller x = plain();
        all(x, 1, "a(101)a(1)!1", "a(101)d(v0)!1");
        all(x, -1, "a(101)z(1)!1", "a(101)d(v1)!1", "a(101)a(1!1", "d(n)a(", "a(101)a(01)!1", "d(n)=x");
    }

    /** The draft stays, and so does all else. */
    private static void changesNothing() {
        for (String text : new String[] {"a(5)=o", "a(5)=n", "d(n)=1", "a(101)!1", "nothing", "a(5)"}) {
            Script.World made = y -> {
                makePlain(y);
                for (int i = 0; i < 20; i++) {
                    y.step();
                }
                Check.draftAll(y, text);
            };
            Probe.unchanged("replay of " + text, made, Caller::replay);
        }
        Caller x = plain();
        Check.draftAll(x, "a(5)");
        Check.due("replay of a text without end", x.replay(), -1);
        x.draft(Check.pack("=n"));
        Check.due("replay with an end that does not come", x.replay(), 0);
        Check.draftAll(x, "a(5)d(v0)=");
        Check.due("replay of a text without a result", x.replay(), -1);
        x.draft('5');
        Check.due("replay with its result", x.replay(), 1);
        x.draft('0');
        Check.due("replay with another result", x.replay(), 0);
        x.draft('o');
        Check.due("replay with too much", x.replay(), -1);
        for (int i = 0; i < 30; i++) {
            x.step();
        }
        int state = x.state();
        int entries = x.entries();
        for (int e = 0; e < entries; e++) {
            Check.replays(x, Check.textOf(x, e), 1);
            Check.due("replay again", x.replay(), 1);
        }
        Check.due("state after replays", x.state(), state);
        Check.due("entries after replays", x.entries(), entries);
        Check.due("some were replayed", entries > 3, true);
    }
}
