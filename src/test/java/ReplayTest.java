/** Promises 12 and 13: draft and replay, and by them what each operation, trouble and fault is. */
final class ReplayTest {
    public static void main(String[] args) {
        drafts();
        operations();
        casts();
        compares();
        faultOfSelf();
        faultsOfPairs();
        deepSense();
        codes();
        invalid();
        otherEnds();
        noText();
        limits();
        changesNothing();
        Check.end();
    }

    private static void drafts() {
        CallExplorer x = new CallExplorer(0);
        x.type(0, 0, 0);
        x.operation(0, 1, 0);
        Check.due("lowest byte 0", x.draft(0x6100L), false);
        Check.due("byte 31", x.draft(0x611f61L), false);
        Check.due("byte 127", x.draft(0x617f61L), false);
        Check.due("byte 128", x.draft(0x618061L), false);
        Check.due("byte 255", x.draft(-1L), false);
        Check.due("eighth byte 200", x.draft(0xc861616161616161L), false);
        Check.due("bytes 32 and 126", x.draft(0x7e20L), true);
        Check.due("empty", x.draft(0), true);
        Check.due("behind a zero", x.draft(0xff1f0028_61L), true);
        Check.due("the rest", x.draft(Check.pack("5)=o")), true);
        Check.due("replay", x.replay(), 1);
        Check.due("replay again, as the draft stays", x.replay(), 1);
        Check.due("refused", x.draft(0x1f61L), false);
        Check.due("replay after a refused draft", x.replay(), 1);
        Check.due("one letter more", x.draft('o'), true);
        Check.due("replay then", x.replay(), -1);
        Check.due("empty", x.draft(0), true);
        for (int i = 0; i < 25; i++) {
            Check.due("eight letters", x.draft(Check.pack("a(5)a(5)")), true);
        }
        Check.due("the 201st letter", x.draft('a'), false);
        Check.due("empty", x.draft(0), true);
        Check.due("replay of nothing", x.replay(), -1);
        for (int i = 0; i < 24; i++) {
            x.draft(Check.pack("aaaaaaaa"));
        }
        Check.due("letter 193", x.draft('a'), true);
        Check.due("eight more than fit", x.draft(Check.pack("aaaaaaaa")), false);
        Check.due("seven that fit", x.draft(Check.pack("aaaaaaa")), true);
    }

    /** Objects that are equal to themselves alone, so that no fault comes between. */
    private static CallExplorer plain() {
        CallExplorer x = new CallExplorer(0);
        x.type(0, 0, 0);
        x.type(1, 0, 0);
        x.operation(0, 1, 0);
        x.operation(0, 2, 0);
        x.operation(1, 2, 1);
        x.operation(2, 1, 0);
        x.operation(3, 1, 0);
        x.operation(4, 1, 1);
        x.operation(5, 1, 2);
        x.operation(6, 1, 0);
        x.operation(7, 1, 0);
        x.operation(8, 1, 0);
        return x;
    }

    private static void operations() {
        String[] good = {
            "a(100)=o", "a(-100)=o", "a(101)!1", "a(-101)!1", "a(2147483647)!1", "a(-2147483648)!1",
            "a(7)c(v0)d(v1)=7", "a(7)c(v0)j(v1)=2", "a(7)c(v0)e(v0,1)i(v1)=8", "a(7)c(v0)c(v1)c(v2)j(v3)=4",
            "a(7)d(v0)a(v1)d(v2)=7", "b(3)d(v0)=3",
            "a(7)e(v0,93)d(v0)=100", "a(7)e(v0,94)!1", "a(7)e(v0,-108)!1", "a(7)e(v0,-107)d(v1)=-100",
            "a(7)e(v0,2147483647)!1", "a(-7)e(v0,-2147483648)!1",
            "a(1)f(v0,v0)!2", "a(1)a(2)f(v0,v1)f(v1,v0)!2", "a(1)a(2)a(3)f(v0,v1)f(v1,v2)f(v2,v0)!2",
            "a(1)a(2)f(v0,v1)j(v2)=2", "a(1)a(2)f(v0,v1)f(v0,n)j(v0)=1", "a(1)a(2)f(v0,v1)f(v0,v1)j(v0)=2",
            "a(1)f(v0,n)=o", "a(1)c(v0)f(v0,v1)!2", "a(1)a(2)f(v0,v1)i(v0)=2",
            "a(1)g(v0)=n", "a(1)b(2)f(v0,v1)g(v0)d(v3)=2", "a(1)a(2)f(v0,v1)g(v0)!3",
            "a(7)h(v0,2)=3", "a(-7)h(v0,2)=-3", "a(7)h(v0,-2147483648)=0", "a(7)h(v0,0)!4",
            "a(1)i(v0)?4", "a(1)j(v0)=1", "a(0)h(v0,-1)=0", "a(1)a(101)i(v0)!1", "a(1)i(v0)a(101)?4",
        };
        CallExplorer x = plain();
        for (String text : good) {
            Check.replays(x, text, 1);
        }
    }

    /** A next of a subclass is no trouble; one of a parent or of a stranger is. */
    private static void casts() {
        CallExplorer x = new CallExplorer(0);
        x.type(0, 0, 0);
        x.type(1, 0, 0);
        x.type(2, 0, 0);
        x.type(0, 0, 0);
        for (int c = 1; c <= 4; c++) {
            x.operation(0, c, 0);
        }
        x.operation(4, 1, 1);
        x.operation(4, 1, 4);
        x.operation(5, 1, 2);
        Check.replays(x, "a(1)a(2)e(v0,v1)g(v0)!3", 1);
        Check.replays(x, "a(1)b(2)e(v0,v1)g(v0)=o", 1);
        Check.replays(x, "a(1)c(2)e(v0,v1)g(v0)=o", 1);
        Check.replays(x, "a(1)d(2)f(v0,v1)g(v0)!3", 1);
        Check.replays(x, "a(1)d(2)e(v0,v1)g(v0)!3", -1);
    }

    /** Operations a, b, c make objects of classes 1, 2, 3; d links and e compares. */
    private static CallExplorer pairs(int[] parents, int[] senses, int[] marks) {
        CallExplorer x = new CallExplorer(0);
        for (int i = 0; i < 3; i++) {
            x.type(parents[i], senses[i], marks[i]);
        }
        x.operation(0, 1, 0);
        x.operation(0, 2, 0);
        x.operation(0, 3, 0);
        x.operation(4, 1, 1);
        x.operation(9, 1, 1);
        x.operation(9, 2, 1);
        return x;
    }

    private static final int[] LINE = {0, 1, 2};

    private static void compares() {
        CallExplorer x = pairs(LINE, new int[] {1, 1, 0}, new int[] {0, 0, 0});
        Check.replays(x, "a(1)a(1)e(v0,v1)=1", 1);
        Check.replays(x, "a(1)a(2)e(v0,v1)=0", 1);
        Check.replays(x, "a(1)b(1)e(v0,v1)=0", 1);
        Check.replays(x, "a(1)e(v0,n)=0", 1);
        Check.replays(x, "c(1)c(1)e(v0,v1)=0", 1);
        Check.replays(x, "c(1)e(v0,v0)=1", 1);
        CallExplorer kin = pairs(LINE, new int[] {3, 3, 3}, new int[] {0, 0, 0});
        Check.replays(kin, "a(1)a(1)e(v0,v1)=1", 1);
        Check.replays(kin, "a(1)b(2)e(v0,v1)=0", 1);
        Check.replays(kin, "b(1)b(1)f(v0,v1)=1", 1);
    }

    private static void faultOfSelf() {
        CallExplorer x = pairs(LINE, new int[] {3, 1, 4}, new int[] {0, 0, 0});
        Check.replays(x, "c(1)?1", 1);
        Check.replays(x, "a(1)b(1)?2", 1);
        Check.replays(x, "a(1)b(1)c(1)?1", 1);
        Check.replays(x, "c(1)a(101)!1", 1);
        Check.replays(x, "c(1)e(v0,v0)?1", 1);
        CallExplorer deep = pairs(LINE, new int[] {2, 4, 0}, new int[] {0, 0, 0});
        Check.replays(deep, "a(1)c(1)d(v0,v1)=o", 1);
        Check.replays(deep, "a(1)b(1)d(v0,v1)?1", 1);
    }

    private static void faultsOfPairs() {
        CallExplorer x = pairs(new int[] {0, 0, 2}, new int[] {1, 3, 1}, new int[] {2, 0, 0});
        Check.replays(x, "a(1)a(2)=o", 1);
        Check.replays(x, "a(1)a(1)?3", 1);
        Check.replays(x, "b(1)c(1)?2", 1);
        Check.replays(x, "c(1)b(1)?2", 1);
        Check.replays(x, "b(1)c(2)=o", 1);
        Check.replays(x, "b(1)b(1)=o", 1);
        Check.replays(x, "a(1)a(1)b(1)c(1)?3", 1);
        Check.replays(x, "b(1)c(1)a(1)a(1)?2", 1);
        Check.replays(x, "a(1)b(1)c(1)a(1)?3", 1);
        Check.replays(x, "b(1)a(1)a(1)c(1)?2", 1);
    }

    private static void deepSense() {
        CallExplorer x = pairs(LINE, new int[] {2, 1, 0}, new int[] {0, 0, 0});
        Check.replays(x, "a(1)a(1)e(v0,v1)=1", 1);
        Check.replays(x, "a(1)a(1)a(5)d(v0,v2)e(v0,v1)=0", 1);
        Check.replays(x, "a(1)a(1)a(5)d(v0,v2)e(v1,v0)=0", 1);
        Check.replays(x, "a(1)a(1)a(5)a(5)d(v0,v2)d(v1,v3)e(v0,v1)=1", 1);
        Check.replays(x, "a(1)a(1)a(5)a(6)d(v0,v2)d(v1,v3)e(v0,v1)=0", 1);
        Check.replays(x, "a(1)a(1)b(5)b(5)d(v0,v2)d(v1,v3)e(v0,v1)=1", 1);
        Check.replays(x, "a(1)a(1)c(5)c(5)d(v0,v2)d(v1,v3)e(v0,v1)=0", 1);
        Check.replays(x, "a(1)a(1)c(5)d(v0,v2)d(v1,v2)e(v0,v1)=1", 1);
        Check.replays(x, "a(1)a(1)a(5)b(5)d(v0,v2)d(v1,v3)e(v0,v1)=0", 1);
    }

    private static void codes() {
        for (int mark = 0; mark < 4; mark++) {
            CallExplorer x = pairs(LINE, new int[] {1, 1, 1}, new int[] {mark, 0, 0});
            Check.replays(x, "a(1)a(1)=o", mark == 2 ? 0 : 1);
            Check.replays(x, "a(1)a(1)?3", mark == 2 ? 1 : 0);
        }
    }

    private static void invalid() {
        CallExplorer x = plain();
        String[] calls = {"c(n)", "d(n)", "e(n,1)", "f(n,n)", "g(n)", "h(n,0)", "i(n)", "j(n)", "a(1)g(v0)d(v1)",
            "a(1)f(n,v0)", "e(n,2147483647)"};
        String[] ends = {"=0", "=n", "=o", "!5", "!4", "?4"};
        for (String call : calls) {
            for (String end : ends) {
                Check.replays(x, call + end, 0);
            }
        }
    }

    private static void otherEnds() {
        CallExplorer x = plain();
        String[] others = {"a(1)=n", "a(1)=1", "a(1)!1", "a(1)?1", "a(101)=o", "a(101)!2", "a(101)?1", "a(1)d(v0)=o",
            "a(1)d(v0)=n", "a(1)d(v0)=-1", "a(1)d(v0)=2147483647", "a(1)g(v0)=0", "a(1)g(v0)=o", "a(0)d(v0)=n",
            "a(1)i(v0)!5", "a(1)i(v0)?3", "a(1)i(v0)=0", "a(1)f(v0,v0)!1", "a(7)h(v0,0)=0"};
        for (String text : others) {
            Check.replays(x, text, 0);
        }
    }

    private static void noText() {
        CallExplorer x = plain();
        String[] wrong = {"=o", "=1", "a", "a(", "a(1", "a(1)", "a(1)=", "a(1)!", "a(1)?", "a(1)!0", "a(1)!6",
            "a(1)?0", "a(1)?5", "a(1)=o=o", "a(1)=oo", "a(1)=o ", " a(1)=o", "a( 1)=o", "a(1) =o", "a(1)=o!1",
            "a(01)=o", "a(-0)=o", "a(00)=o", "a(-01)=o", "a(+1)=o", "a(--1)=o", "a(-)=o", "a()=o",
            "a(2147483648)!1", "a(-2147483649)!1", "a(99999999999)!1", "a(18446744073709551617)=o",
            "a(1)d(v0)=01", "a(1)d(v0)=-0", "a(1)d(v0)=2147483648", "a(1)d(v0)=-2147483649", "a(1)d(v0)=+1",
            "a(n)=o", "a(v0)=o", "a(1)a(v0)=o", "d(v0)=1", "a(1)d(v1)=1", "a(1)d(v2)=1", "a(1)d(v00)=1",
            "a(1)d(v-0)=1", "a(1)d(v)=1", "a(1)d(v4294967296)=1", "a(1)d(0)=1", "a(1)d(1)=1", "a(1)d(v0)d(v1)=1",
            "a(1,1)=o", "a(1)d(v0,n)=1", "a(1)e(v0)=o", "a(1)e(v0,n)=o", "a(1)e(v0,v0)=o", "a(1)f(v0,1)=o",
            "a(1)f(v0)=o", "a(1)f(v0,)=o", "a(1)f(,v0)=o", "a(1)f(v0;n)=o", "k(1)=o", "A(1)=o", "`(1)=o",
            "a[1]=o", "a(1),a(1)=o", "a(1)!12", "a(1)=v0", "a(1)=O", "a(1)=N", "n=n", "a(1)d(V0)=1",
            "a(1)e(v0,-0)=o", "c(v0)=o", "a(1)c(v1)=o", "a(1)d(v0)e(v1,1)=o"};
        for (String text : wrong) {
            Check.replays(x, text, -1);
        }
        CallExplorer down = new CallExplorer(0);
        down.type(0, 0, 0);
        down.type(1, 0, 0);
        down.operation(0, 1, 0);
        Check.replays(down, "b(1)=o", -1);
        down.operation(2, 2, 0);
        Check.replays(down, "a(1)b(v0)=1", -1);
        Check.replays(down, "b(n)=1", 0);
    }

    private static void limits() {
        CallExplorer x = plain();
        String nine = "a(1)a(2)a(3)a(4)a(5)a(6)a(7)a(8)a(9)";
        Check.replays(x, nine + "d(v8)=9", 1);
        Check.replays(x, nine + "a(10)=o", 1);
        Check.replays(x, nine + "a(10)d(v9)=10", -1);
        Check.replays(x, nine + "d(v9)=9", -1);
        Check.replays(x, nine + "d(v10)=9", -1);
        String chain = "a(1)c(v0)c(v1)c(v2)c(v3)c(v4)c(v5)c(v6)c(v7)j(v8)=9";
        Check.replays(x, chain, 1);
        Check.replays(x, "a(1)c(v0)c(v1)c(v2)c(v3)c(v4)c(v5)c(v6)c(v7)f(v0,v8)!2", 1);
        StringBuilder wide = new StringBuilder("a(1)");
        for (int i = 0; i < 9; i++) {
            wide.append("h(v0,-2147483648)");
        }
        Check.replays(x, wide + "=0", 1);
    }

    private static void changesNothing() {
        CallExplorer x = plain();
        for (int i = 0; i < 30; i++) {
            x.step();
        }
        int state = x.state();
        int entries = x.entries();
        for (int e = 0; e < entries; e++) {
            Check.replays(x, Check.textOf(x, e), 1);
        }
        Check.due("state after replays", x.state(), state);
        Check.due("entries after replays", x.entries(), entries);
        Check.due("some were replayed", entries > 3, true);
    }
}
