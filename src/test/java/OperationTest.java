/** The terms of values and of the ten kinds of operations: results and trouble, by replayed texts. */
final class OperationTest {
    private static final Caller PLAIN = plain();

    public static void main(String[] args) {
        valuesAreInBounds();
        newNextIsNull();
        wrapTakesValueAndNext();
        addStaysInBounds();
        addIsNotWrapped();
        linkRefusesLoops();
        linkTakesNull();
        nextIsCast();
        divideByZero();
        divideAsJava();
        nextValueOfNull();
        countsFromItself();
        compareWithNull();
        nullComesFirst();
        troubleEndsTheRun();
        resultsHaveTypes();
        tenObjects();
        Check.end();
    }

    /** Objects that are equal to themselves alone, so that no fault comes between. */
    private static Caller plain() {
        Caller x = new Caller(0);
        x.type(0, 0, 0);
        x.type(1, 0, 0);
        x.operation(0, 1, 0);
        x.operation(0, 2, 0);
        x.operation(1, 2, 1);
        x.operation(2, 1, 0);
        x.operation(3, 1, 0);
        x.operation(4, 1, 1);
        x.operation(5, 1, 2);
        x.operation(6, 1, 0);
        x.operation(7, 1, 0);
        x.operation(8, 1, 0);
        return x;
    }

    private static void come(String... texts) {
        for (String text : texts) {
            Check.replays(PLAIN, text, 1);
        }
    }

    /** A VALUE (-100 .. 100); RANGE if that can be no value. */
    private static void valuesAreInBounds() {
        come("a(99)d(v0)=99", "a(100)d(v0)=100", "a(101)!1", "a(102)!1");
        come("a(-99)d(v0)=-99", "a(-100)d(v0)=-100", "a(-101)!1", "a(-102)!1", "a(0)d(v0)=0");
        come("a(2147483647)!1", "a(-2147483648)!1", "b(100)=o", "b(101)!1");
        come("a(100)d(v0)a(v1)d(v2)=100", "a(-100)d(v0)b(v1)d(v2)=-100");
    }

    /** A NEXT: null when it is made. */
    private static void newNextIsNull() {
        come("a(1)g(v0)=n", "b(1)g(v0)=n", "a(1)j(v0)=1", "a(1)i(v0)?4");
    }

    /** 1 (d x): a new object of class c with the value of x and x as next. */
    private static void wrapTakesValueAndNext() {
        come("a(7)c(v0)d(v1)=7", "a(7)c(v0)i(v1)=7", "a(7)c(v0)j(v1)=2", "a(-100)c(v0)d(v1)=-100");
        come("a(7)c(v0)e(v0,1)i(v1)=8", "a(7)c(v0)e(v0,1)d(v1)=7", "a(7)c(v0)e(v1,1)d(v0)=7");
        come("a(7)c(v0)c(v1)c(v2)j(v3)=4", "a(7)c(v0)c(v0)j(v2)=2", "a(7)c(v0)c(v1)g(v2)=o", "a(7)c(v0)g(v1)!3");
    }

    /** 3: RANGE if the sum can be no value. */
    private static void addStaysInBounds() {
        come("a(7)e(v0,92)d(v0)=99", "a(7)e(v0,93)d(v0)=100", "a(7)e(v0,94)!1");
        come("a(7)e(v0,-106)d(v1)=-99", "a(7)e(v0,-107)d(v1)=-100", "a(7)e(v0,-108)!1");
        come("a(100)e(v0,0)d(v0)=100", "a(100)e(v0,1)!1", "a(-100)e(v0,0)d(v0)=-100", "a(-100)e(v0,-1)!1");
        come("a(100)e(v0,-200)d(v1)=-100", "a(100)e(v0,-201)!1", "a(-100)e(v0,200)d(v1)=100", "a(-100)e(v0,201)!1");
    }

    /** 3: the sum is not wrapped. */
    private static void addIsNotWrapped() {
        come("a(1)e(v0,2147483647)!1", "a(100)e(v0,2147483647)!1", "a(-1)e(v0,-2147483648)!1");
        come("a(-100)e(v0,-2147483648)!1", "a(-100)e(v0,2147483647)!1", "a(100)e(v0,-2147483648)!1");
    }

    /** 4: LOOP if y is x or x is found by going from y on by nexts. */
    private static void linkRefusesLoops() {
        come("a(1)f(v0,v0)!2", "a(1)a(2)f(v0,v1)f(v1,v0)!2", "a(1)a(2)a(3)f(v0,v1)f(v1,v2)f(v2,v0)!2");
        come("a(1)c(v0)f(v0,v1)!2", "a(1)e(v0,1)f(v0,v1)!2");
        come("a(1)c(v0)c(v1)c(v2)c(v3)c(v4)c(v5)c(v6)c(v7)f(v0,v8)!2");
        come("a(1)c(v0)c(v1)c(v2)c(v3)c(v4)c(v5)c(v6)c(v7)f(v1,v8)!2");
        come("a(1)c(v0)c(v1)c(v2)c(v3)c(v4)c(v5)c(v6)c(v7)f(v7,v8)!2");
        come("a(1)c(v0)c(v1)c(v2)c(v3)c(v4)c(v5)c(v6)a(1)f(v8,v7)=o");
        come("a(1)a(2)f(v0,v1)j(v2)=2", "a(1)a(2)f(v0,v1)f(v0,v1)j(v0)=2", "a(1)c(v0)f(v1,v0)j(v1)=2");
        come("a(1)c(v0)c(v1)f(v2,v0)j(v2)=2");
    }

    /** 4: the next of x becomes y, which may be null; the result is x. */
    private static void linkTakesNull() {
        come("a(1)f(v0,n)=o", "a(1)f(v0,n)g(v0)=n", "a(1)a(2)f(v0,v1)f(v0,n)j(v0)=1", "a(1)f(v0,n)d(v1)=1");
        come("a(1)g(v0)f(v0,v1)j(v2)=1");
    }

    /** 5: CAST if it is an object whose class IS not d (null is null). */
    private static void nextIsCast() {
        Caller x = new Caller(0);
        x.type(0, 0, 0);
        x.type(1, 0, 0);
        x.type(2, 0, 0);
        x.type(0, 0, 0);
        for (int c = 1; c <= 4; c++) {
            x.operation(0, c, 0);
        }
        x.operation(4, 1, 1);
        x.operation(4, 1, 4);
        x.operation(5, 1, 2);
        Check.replays(x, "a(1)a(2)e(v0,v1)g(v0)!3", 1);
        Check.replays(x, "a(1)b(2)e(v0,v1)g(v0)=o", 1);
        Check.replays(x, "a(1)c(2)e(v0,v1)g(v0)=o", 1);
        Check.replays(x, "a(1)d(2)f(v0,v1)g(v0)!3", 1);
        Check.replays(x, "a(1)g(v0)=n", 1);
        Check.replays(x, "a(1)d(2)e(v0,v1)g(v0)!3", -1);
        // A variable has the type of its operation's result, whatever the object's class is.
        Check.replays(x, "a(1)b(2)e(v0,v1)g(v2)g(v3)=n", 1);
    }

    /** 6: ZERO if n is 0. */
    private static void divideByZero() {
        come("a(7)h(v0,0)!4", "a(0)h(v0,0)!4", "a(7)h(v0,1)=7", "a(7)h(v0,-1)=-7", "a(0)h(v0,-1)=0");
        come("a(0)d(v0)h(v0,v1)!4");
    }

    /** 6: divided as Java's ints. */
    private static void divideAsJava() {
        come("a(7)h(v0,2)=3", "a(-7)h(v0,2)=-3", "a(7)h(v0,-2)=-3", "a(-7)h(v0,-2)=3", "a(7)h(v0,7)=1");
        come("a(7)h(v0,8)=0", "a(-7)h(v0,8)=0");
        come("a(-100)h(v0,-1)=100", "a(-100)h(v0,-2147483648)=0", "a(100)h(v0,2147483647)=0");
    }

    /** 7: NULL if that is null. */
    private static void nextValueOfNull() {
        come("a(1)i(v0)?4", "a(1)a(2)f(v0,v1)i(v0)=2", "a(1)a(2)f(v0,v1)f(v0,n)i(v0)?4", "a(1)c(v0)i(v0)?4");
    }

    /** 8: how many objects there are from x on by nexts (x, too). */
    private static void countsFromItself() {
        come("a(1)j(v0)=1", "a(1)c(v0)j(v1)=2", "a(1)c(v0)j(v0)=1", "a(1)c(v0)c(v1)j(v1)=2");
        come("a(1)c(v0)c(v1)c(v2)c(v3)c(v4)c(v5)c(v6)c(v7)j(v8)=9");
    }

    /** 9: 1 if y is an object and x is EQUAL to it, else 0. */
    private static void compareWithNull() {
        Caller x = new Caller(0);
        x.type(0, 0, 0);
        x.operation(0, 1, 0);
        x.operation(9, 1, 1);
        x.operation(5, 1, 1);
        Check.replays(x, "a(1)b(v0,n)=0", 1);
        Check.replays(x, "a(1)c(v0)b(v0,v1)=0", 1);
        Check.replays(x, "a(1)b(v0,v0)=1", 1);
        Check.replays(x, "a(1)a(1)b(v0,v1)=0", 1);
    }

    /** In all: NULL if x is null (before anything else), and that is invalid, whatever end is given. */
    private static void nullComesFirst() {
        String[] calls = {"c(n)", "d(n)", "e(n,1)", "e(n,2147483647)", "f(n,n)", "a(1)f(n,v0)", "g(n)", "h(n,0)",
            "h(n,1)", "i(n)", "j(n)", "a(1)g(v0)d(v1)", "a(1)g(v0)e(v1,101)", "a(1)g(v0)f(v1,v1)", "a(1)g(v0)h(v1,0)",
            "a(1)g(v0)i(v1)", "a(1)g(v0)j(v1)", "a(1)g(v0)c(v1)", "a(1)g(v0)g(v1)"};
        for (String call : calls) {
            for (String end : new String[] {"=0", "=n", "=o", "!1", "!2", "!3", "!4", "!5", "?1", "?4"}) {
                Check.replays(PLAIN, call + end, 0);
            }
        }
    }

    /** With trouble it ends: what stands behind is not run. */
    private static void troubleEndsTheRun() {
        come("a(1)a(101)i(v0)!1", "a(1)i(v0)a(101)?4", "a(101)d(n)!1", "a(1)i(v0)d(n)?4", "a(101)d(v0)!1");
        come("a(1)h(v0,0)a(101)!4", "a(1)a(101)h(v0,0)!1", "a(101)a(1)a(2)a(3)a(4)a(5)a(6)a(7)a(8)a(9)!1");
        Check.replays(PLAIN, "d(n)a(101)!1", 0);
    }

    /** Of 1, 3 and 4 the result is of type c, of 5 of type d, of all others a number. */
    private static void resultsHaveTypes() {
        Caller x = new Caller(0);
        x.type(0, 0, 0);
        x.type(0, 0, 0);
        x.operation(0, 1, 0);
        x.operation(0, 2, 0);
        x.operation(2, 1, 0);
        x.operation(2, 2, 0);
        x.operation(1, 1, 2);
        x.operation(3, 2, 0);
        x.operation(4, 1, 2);
        x.operation(5, 1, 2);
        x.operation(9, 1, 2);
        x.operation(4, 2, 1);
        typed(x, "a(3)", "c", 3);
        typed(x, "b(3)", "d", 3);
        typed(x, "b(3)e(v0)", "c", 3);
        typed(x, "b(3)f(v0,1)", "d", 4);
        typed(x, "a(3)b(4)g(v0,v1)", "c", 3);
        typed(x, "a(3)b(4)g(v0,v1)h(v0)", "d", 4);
        typed(x, "a(3)b(4)j(v1,v0)", "d", 4);
        typed(x, "a(3)b(4)i(v0,v1)", "a", 0);
        typed(x, "a(3)c(v0)", "a", 0);
    }

    /** Of c and d, which ask for an object of class 1 and 2, and a, which asks for a number, one will do. */
    private static void typed(Caller x, String calls, String asking, int value) {
        String last = "(v" + (calls.split("\\)").length - 1) + ")=";
        for (String call : new String[] {"c", "d", "a"}) {
            String text = calls + call + last + (call.equals("a") ? "o" : "" + value);
            Check.replays(x, text, call.equals(asking) ? 1 : -1);
        }
    }

    /** As many objects as a sequence can make, in one row. */
    private static void tenObjects() {
        come("a(1)c(v0)c(v1)c(v2)c(v3)c(v4)c(v5)c(v6)c(v7)c(v8)=o", "a(1)a(1)a(1)a(1)a(1)a(1)a(1)a(1)a(1)a(1)=o");
    }
}
