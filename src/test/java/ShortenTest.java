/** Promise 7: shorten, on entries whose shorter form was worked out by hand from the document. */
final class ShortenTest {
    public static void main(String[] args) {
        byHand(24, 13, "a(-1)b(v0,1)b(v1,100)c(v2)a(v3)?3", "a(0)c(v0)a(v1)?3");
        byHand(23, 22, "f(100)f(100)d(v0,v1)b(v2,1)!1", "f(100)b(v0,1)!1");
        byHand(2, 32, "a(0)a(100)d(v0,v1)a(0)d(v2,v3)?3", "a(0)a(0)d(v0,v1)?3");
        byHand(0, 18, "f(-1)b(v0,-1)a(0)c(v2)e(v1,v3)!4", "f(0)e(v0,0)!4");
        byHand(7, 30, "a(-1)e(v0,1)f(v1)g(v2)?4", "a(0)g(v0)?4");
        refusals();
        allElseStays();
        Check.end();
    }

    private static CallExplorer world(int state) {
        CallExplorer x = new CallExplorer(state);
        x.type(0, 1, 2);
        x.type(1, 1, 0);
        x.operation(0, 1, 0);
        x.operation(3, 1, 0);
        x.operation(2, 1, 0);
        x.operation(4, 1, 1);
        x.operation(6, 1, 0);
        x.operation(0, 2, 0);
        x.operation(7, 1, 0);
        x.literal(100);
        return x;
    }

    /** Every finding is shortened as it comes, so that later steps meet shortened entries. */
    private static void byHand(int state, int entry, String before, String after) {
        CallExplorer x = world(state);
        for (int i = 0; i < 200; i++) {
            int e = x.step();
            if (e == entry) {
                Check.due("text of " + entry + " before", Check.textOf(x, e), before);
            }
            if (e >= 0 && x.entry(e, 0) >= 2) {
                int left = x.shorten(e);
                Check.due("statements left", left, x.entry(e, 2));
            }
        }
        Check.due("text of " + entry + " after", Check.textOf(x, entry), after);
    }

    private static void refusals() {
        CallExplorer x = world(5);
        Check.due("shorten(0) of an empty book", x.shorten(0), -1);
        for (int i = 0; i < 100; i++) {
            x.step();
        }
        for (int e : new int[] {-1, x.entries(), Integer.MIN_VALUE, Integer.MAX_VALUE}) {
            Check.due("shorten(" + e + ")", x.shorten(e), -1);
        }
        for (int e = 0; e < x.entries(); e++) {
            String before = Check.textOf(x, e);
            if (x.entry(e, 0) < 2) {
                Check.due("shorten of " + before, x.shorten(e), -1);
                Check.due("text then", Check.textOf(x, e), before);
            }
        }
    }

    private static void allElseStays() {
        for (int state = 0; state < 60; state++) {
            CallExplorer x = world(state);
            x.seek(20);
            x.seek(20);
            for (int e = 0; e < x.entries(); e++) {
                int[] before = {x.entry(e, 0), x.entry(e, 1), x.entry(e, 3), x.entry(e, 4)};
                int entries = x.entries();
                int drawn = x.state();
                int length = x.entry(e, 2);
                int left = x.shorten(e);
                Check.due("never longer", left <= length, true);
                int[] after = {x.entry(e, 0), x.entry(e, 1), x.entry(e, 3), x.entry(e, 4)};
                for (int i = 0; i < before.length; i++) {
                    Check.due("of entry " + e, after[i], before[i]);
                }
                Check.due("entries", x.entries(), entries);
                Check.due("state", x.state(), drawn);
                Check.replays(x, Check.textOf(x, e), 1);
            }
        }
    }
}
