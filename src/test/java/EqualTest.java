/** The terms EQUAL and CODE and the faults 1 to 3, by replayed texts. */
final class EqualTest {
    private static final int[] LINE = {0, 1, 2};
    private static final int[] APART = {0, 0, 0};

    public static void main(String[] args) {
        senseItself();
        senseSameClassAndValue();
        senseNextsToo();
        senseNextsBySenseOfNext();
        senseKin();
        senseNever();
        faultOneBeforeTwo();
        faultOneOfAnyObject();
        faultTwoBothWaysRound();
        faultThreeByCodes();
        firstPairCounts();
        valuesAtTheEndCount();
        noFaultsWithTrouble();
        noObjectsAtFirst();
        Check.end();
    }

    /** Operations a, b, c make objects of classes 1, 2, 3; d links, e and f compare, g adds, h wraps. */
    private static Caller world(int[] parents, int[] senses, int[] marks) {
        Caller x = new Caller(0);
        for (int i = 0; i < 3; i++) {
            x.type(parents[i], senses[i], marks[i]);
        }
        x.operation(0, 1, 0);
        x.operation(0, 2, 0);
        x.operation(0, 3, 0);
        x.operation(4, 1, 1);
        x.operation(9, 1, 1);
        x.operation(9, 1, 2);
        x.operation(3, 1, 0);
        x.operation(1, 1, 1);
        return x;
    }

    private static Caller world(int[] parents, int... senses) {
        return world(parents, senses, new int[3]);
    }

    private static void come(Caller x, String... texts) {
        for (String text : texts) {
            Check.replays(x, text, 1);
        }
    }

    /** 0: if y is x. */
    private static void senseItself() {
        Caller x = world(LINE, 0, 0, 0);
        come(x, "a(1)e(v0,v0)=1", "a(1)g(v0,1)e(v0,v1)=1", "a(1)a(1)e(v0,v1)=0", "a(1)b(1)e(v0,v1)=0", "a(1)a(1)=o");
    }

    /** 1: if y has the same class and the same value. */
    private static void senseSameClassAndValue() {
        Caller x = world(LINE, 1, 1, 1);
        come(x, "a(1)a(1)e(v0,v1)=1", "a(1)a(2)e(v0,v1)=0", "a(1)a(0)e(v0,v1)=0", "a(1)a(-1)e(v0,v1)=0");
        come(x, "a(1)b(1)e(v0,v1)=0", "b(1)a(1)e(v0,v1)=0", "b(1)b(1)e(v0,v1)=1", "b(1)c(1)e(v0,v1)=0");
        // Nexts do not count.
        come(x, "a(1)a(1)a(5)d(v0,v2)e(v0,v1)=1", "a(1)a(1)a(5)d(v0,v2)e(v1,v0)=1", "a(1)h(v0)e(v0,v1)=1");
    }

    /** 2: as 1, and their nexts are both null, or none is and x's next is EQUAL to y's. */
    private static void senseNextsToo() {
        Caller x = world(LINE, 2, 2, 2);
        come(x, "a(1)a(1)e(v0,v1)=1", "a(1)a(2)e(v0,v1)=0", "a(1)b(1)e(v0,v1)=0", "b(1)a(1)e(v0,v1)=0");
        come(x, "a(1)a(1)a(5)d(v0,v2)e(v0,v1)=0", "a(1)a(1)a(5)d(v0,v2)e(v1,v0)=0");
        come(x, "a(1)a(1)a(5)d(v0,v2)d(v1,v2)e(v0,v1)=1");
        come(x, "a(1)a(1)a(5)a(5)d(v0,v2)d(v1,v3)e(v0,v1)=1", "a(1)a(1)a(5)a(6)d(v0,v2)d(v1,v3)e(v0,v1)=0");
        come(x, "a(1)a(2)a(5)a(5)d(v0,v2)d(v1,v3)e(v0,v1)=0", "a(1)a(1)a(5)b(5)d(v0,v2)d(v1,v3)e(v0,v1)=0");
        // Nexts of nexts: one is null, both are, none is.
        come(x, "a(1)h(v0)h(v1)a(1)h(v3)e(v2,v4)=0", "a(1)h(v0)h(v1)a(1)h(v3)e(v4,v2)=0");
        come(x, "a(1)h(v0)h(v1)a(1)h(v3)h(v4)e(v2,v5)=1", "a(1)h(v0)h(v1)b(1)h(v3)h(v4)e(v2,v5)=0");
        come(x, "a(1)h(v0)h(v1)h(v2)h(v3)h(v4)h(v5)h(v6)e(v7,v6)=0");
        come(x, "a(1)h(v0)h(v1)h(v2)h(v3)h(v4)h(v5)h(v6)e(v7,v7)=1");
    }

    /** 2: the nexts are EQUAL by the sense of x's next, whatever that is. */
    private static void senseNextsBySenseOfNext() {
        Caller x = world(LINE, 2, 1, 0);
        come(x, "a(1)a(1)b(5)b(5)d(v0,v2)d(v1,v3)e(v0,v1)=1", "a(1)a(1)b(5)b(6)d(v0,v2)d(v1,v3)e(v0,v1)=0");
        come(x, "a(1)a(1)c(5)c(5)d(v0,v2)d(v1,v3)e(v0,v1)=0", "a(1)a(1)c(5)d(v0,v2)d(v1,v2)e(v0,v1)=1");
        Caller kin = world(LINE, 2, 3, 3);
        come(kin, "a(1)a(1)b(5)b(5)d(v0,v2)d(v1,v3)e(v0,v1)=1", "a(1)a(1)b(5)c(6)d(v0,v2)d(v1,v3)e(v0,v1)=0");
        come(kin, "a(1)a(1)b(5)c(5)d(v0,v2)d(v1,v3)?2", "a(1)a(1)c(5)b(5)d(v0,v2)d(v1,v3)?2");
        Caller never = world(LINE, 2, 4, 0);
        come(never, "a(1)c(1)d(v0,v1)=o", "a(1)b(1)d(v0,v1)?1", "b(1)a(1)?1");
    }

    /** 3: if the class of y IS the class of x, and they have the same value. */
    private static void senseKin() {
        Caller x = world(LINE, 3, 3, 3);
        come(x, "a(1)a(1)e(v0,v1)=1", "a(1)a(2)e(v0,v1)=0", "b(1)b(1)e(v0,v1)=1", "c(1)c(1)e(v0,v1)=1");
        come(x, "a(1)b(2)e(v0,v1)=0", "c(2)a(1)e(v0,v1)=0");
        // One way round alone: the lesser class is EQUAL to the one that extends it.
        come(x, "a(1)b(1)?2", "b(1)a(1)?2", "a(1)c(1)?2", "c(1)a(1)?2", "b(1)c(1)?2");
        come(world(APART, 3, 3, 3), "a(1)b(1)=o", "b(1)a(1)=o", "a(1)b(1)c(1)=o", "a(1)a(1)=o");
        come(world(new int[] {0, 1, 1}, 3, 3, 3), "b(1)c(1)=o", "c(1)b(1)=o", "a(1)c(1)?2", "a(1)b(1)?2");
        // Nexts do not count.
        come(x, "a(1)a(1)a(5)d(v0,v2)e(v0,v1)=1");
        kinOneWay("f", 1, 2, 1);
        kinOneWay("e", 1, 3, 1);
        kinOneWay("e", 2, 1, 0);
    }

    /** The number that a comparison gave shows in its entry even where it made a fault. */
    private static void kinOneWay(String compare, int first, int second, int want) {
        boolean seen = false;
        for (int state = 0; state < 200 && !seen; state++) {
            Caller x = new Caller(state);
            x.type(0, 3, 0);
            x.type(1, 3, 0);
            x.type(2, 3, 0);
            x.operation(0, first, 0);
            x.operation(0, second, 0);
            x.operation(9, 1, compare.equals("f") ? 2 : 1);
            for (int i = 0; i < 40; i++) {
                int e = x.step();
                if (e >= 0 && Check.textOf(x, e).matches("a\\((.*)\\)b\\(\\1\\)c\\(v0,v1\\).*")) {
                    seen = true;
                    Check.due("fault of " + Check.textOf(x, e), x.entry(e, 1), 2);
                    Check.due("class " + first + " compared with " + second, x.entry(e, 4), want);
                }
            }
        }
        Check.due("class " + first + " was compared with " + second, seen, true);
    }

    /** 4: never. */
    private static void senseNever() {
        Caller x = world(LINE, 4, 4, 0);
        come(x, "a(1)?1", "a(1)e(v0,v0)?1", "b(1)?1", "c(1)=o");
    }

    /** Fault 1 if one is not EQUAL to itself; if there is none such, the pairs. */
    private static void faultOneBeforeTwo() {
        Caller x = world(LINE, new int[] {3, 1, 4}, new int[] {2, 2, 0});
        come(x, "a(1)b(1)?2", "a(1)b(1)c(1)?1", "a(1)a(1)?3", "a(1)a(1)c(1)?1", "c(1)a(1)a(1)?1", "c(1)?1");
    }

    private static void faultOneOfAnyObject() {
        Caller x = world(LINE, 0, 0, 4);
        come(x, "a(1)a(2)a(3)a(4)a(5)a(6)a(7)a(8)a(9)c(10)?1", "c(1)a(2)a(3)a(4)a(5)a(6)a(7)a(8)a(9)a(10)?1");
        come(x, "a(1)a(2)a(3)a(4)a(5)a(6)a(7)a(8)a(9)a(10)=o");
        // Also one that nothing leads to any more.
        come(x, "a(1)c(1)d(v0,v1)d(v0,n)?1");
    }

    /** The first pair of which one is EQUAL to the other but not the other way round: fault 2. */
    private static void faultTwoBothWaysRound() {
        Caller x = world(LINE, 3, 1, 0);
        come(x, "a(1)b(1)?2", "b(1)a(1)?2", "a(1)b(2)=o", "b(2)a(1)=o", "a(1)c(1)?2", "b(1)c(1)=o");
        come(x, "a(1)a(2)a(3)a(4)a(5)a(6)a(7)a(8)a(9)b(9)?2", "b(1)a(2)a(3)a(4)a(5)a(6)a(7)a(8)a(9)a(1)?2");
    }

    /** Or that are EQUAL both ways with different codes: fault 3. */
    private static void faultThreeByCodes() {
        for (int sense = 1; sense <= 3; sense++) {
            for (int mark = 0; mark <= 3; mark++) {
                Caller x = world(LINE, new int[] {sense, 0, 0}, new int[] {mark, 0, 0});
                Check.replays(x, "a(1)a(1)?3", mark == 2 ? 1 : 0);
                Check.replays(x, "a(1)a(1)=o", mark == 2 ? 0 : 1);
                Check.replays(x, "a(0)a(0)=o", mark == 2 ? 0 : 1);
                Check.replays(x, "a(-100)a(5)a(-100)=o", mark == 2 ? 0 : 1);
                // Not EQUAL, so the codes do not count.
                Check.replays(x, "a(1)a(2)=o", 1);
            }
        }
        come(world(LINE, new int[] {0, 0, 0}, new int[] {2, 2, 2}), "a(1)a(1)=o", "b(1)b(1)=o");
    }

    /** The pairs of i and j with i < j, (0, 1), (0, 2), .., (1, 2), .. */
    private static void firstPairCounts() {
        Caller x = world(new int[] {0, 0, 2}, new int[] {1, 3, 1}, new int[] {2, 0, 0});
        come(x, "a(1)a(1)b(1)c(1)?3", "b(1)c(1)a(1)a(1)?2", "a(1)b(1)c(1)a(1)?3", "b(1)a(1)a(1)c(1)?2");
        come(x, "a(1)b(2)c(2)a(2)a(1)?3", "b(1)a(2)a(2)c(2)c(1)?2", "a(1)b(2)a(1)c(2)?3", "b(1)a(2)c(1)a(2)?2");
        come(x, "a(1)a(2)=o", "b(1)c(2)=o", "b(1)b(1)=o", "c(1)b(1)?2", "a(1)b(1)=o");
        come(x, "a(0)a(2)a(3)a(4)a(5)a(6)a(7)a(8)a(9)a(9)?3", "a(0)a(2)a(3)a(4)a(5)a(6)a(7)a(8)a(9)a(0)?3");
        come(x, "a(0)a(2)a(3)a(4)a(5)a(6)a(7)a(8)a(9)a(1)=o");
    }

    /** Objects are looked at when the run has ended, not before. */
    private static void valuesAtTheEndCount() {
        Caller x = world(LINE, new int[] {1, 1, 1}, new int[] {2, 2, 2});
        come(x, "a(1)a(1)g(v1,1)=o", "a(1)a(2)g(v0,1)?3", "a(1)h(v0)?3", "a(1)h(v0)g(v0,1)=o");
        Caller deep = world(LINE, new int[] {2, 1, 1}, new int[] {2, 2, 2});
        come(deep, "a(1)h(v0)=o", "a(1)a(1)?3", "a(1)a(1)a(2)d(v0,v2)=o", "a(1)h(v0)d(v1,n)?3");
    }

    /** With trouble its objects are not looked at. */
    private static void noFaultsWithTrouble() {
        Caller x = world(LINE, new int[] {1, 3, 4}, new int[] {2, 0, 0});
        come(x, "c(1)a(101)!1", "c(1)?1", "a(1)a(1)a(101)!1", "b(1)c(1)g(v0,101)!1", "a(1)a(1)d(v0,v0)!2");
        Caller y = new Caller(0);
        y.type(0, 4, 0);
        y.operation(0, 1, 0);
        y.operation(7, 1, 0);
        come(y, "a(1)b(v0)?4", "a(1)?1");
    }

    /** A run begins with no objects: those of the run before are not looked at. */
    private static void noObjectsAtFirst() {
        Caller x = world(LINE, new int[] {1, 3, 4}, new int[] {2, 0, 0});
        for (int i = 0; i < 3; i++) {
            come(x, "a(1)=o", "a(1)a(1)?3", "a(1)=o", "c(1)?1", "b(1)=o", "a(2)a(1)=o", "c(1)a(101)!1", "a(1)=o");
        }
    }
}
