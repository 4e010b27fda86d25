/** Promise 12: draft. */
final class DraftTest {
    public static void main(String[] args) {
        noneAtFirst();
        lowestFirst();
        upToEight();
        upToTheFirstZero();
        zeroMakesItEmpty();
        lowestZeroIsRefused();
        bytesInBounds();
        behindTheZeroNothingMatters();
        twoHundredAtMost();
        draftIsReadAsItStands();
        Check.end();
    }

    /** Objects of one class, by operation a. */
    private static Caller world() {
        Caller x = new Caller(0);
        makers(x);
        return x;
    }

    private static void makers(Caller x) {
        x.type(0, 0, 0);
        x.operation(0, 1, 0);
    }

    private static void draft(Caller x, String letters, boolean want) {
        Check.due("draft of '" + letters + "'", x.draft(Check.pack(letters)), want);
    }

    private static void noneAtFirst() {
        Caller x = world();
        Check.due("replay of no draft", x.replay(), -1);
        draft(x, "a(1)=o", true);
        Check.due("replay of the first draft", x.replay(), 1);
    }

    /** The bytes of s, the lowest first. */
    private static void lowestFirst() {
        Caller x = world();
        Check.due("draft of a(5)=o", x.draft(0x6f3d29352861L), true);
        Check.due("replay of a(5)=o", x.replay(), 1);
        x.draft(0);
        Check.due("draft of o=)5(a", x.draft(0x61283529_3d6fL), true);
        Check.due("replay of o=)5(a", x.replay(), -1);
    }

    /** Up to eight characters, behind the draft. */
    private static void upToEight() {
        Caller x = world();
        draft(x, "a(12)a(3", true);
        draft(x, ")=o", true);
        Check.due("replay of eight letters and three", x.replay(), 1);
        String text = "a(12)a(34)a(5)=o";
        for (int size = 1; size <= 8; size++) {
            x.draft(0);
            for (int i = 0; i < text.length(); i += size) {
                draft(x, text.substring(i, Math.min(text.length(), i + size)), true);
            }
            Check.due("replay of letters by " + size, x.replay(), 1);
        }
    }

    /** Up to the first zero byte. */
    private static void upToTheFirstZero() {
        for (int size = 1; size < 8; size++) {
            Caller x = world();
            String letters = "a(1)a(2)".substring(0, size);
            long behind = Check.pack("zzzzzzzz") << 8 * (size + 1);
            Check.due(size + " letters, zero, and more", x.draft(Check.pack(letters) | (size < 7 ? behind : 0)), true);
            String rest = "a(1)a(2)=o".substring(size);
            for (int i = 0; i < rest.length(); i++) {
                draft(x, rest.substring(i, i + 1), true);
            }
            Check.due("replay then", x.replay(), 1);
        }
    }

    /** s = 0 makes the draft empty. */
    private static void zeroMakesItEmpty() {
        Caller x = world();
        Check.due("draft(0) of no draft", x.draft(0), true);
        draft(x, "zzz", true);
        Check.due("replay of zzz", x.replay(), -1);
        Check.due("draft(0)", x.draft(0), true);
        Check.due("replay of nothing", x.replay(), -1);
        draft(x, "a(1)=o", true);
        Check.due("replay of what came then", x.replay(), 1);
        Check.due("draft(0)", x.draft(0), true);
        Check.due("draft(0) again", x.draft(0), true);
        Check.due("room then", room(x), 200);
    }

    /** How many characters more it takes; the draft is full then. */
    private static int room(Caller x) {
        int letters = 0;
        while (letters < 300 && x.draft('z')) {
            letters++;
        }
        return letters;
    }

    /** False, refused, if the lowest byte is 0 and s is not. */
    private static void lowestZeroIsRefused() {
        for (long s : new long[] {0x100, 0x6100, 0x61610000L, 1L << 62, Long.MIN_VALUE, 0x6161616161616100L, -256}) {
            Caller x = world();
            Check.due("draft(" + s + ")", x.draft(s), false);
            draft(x, "a(1)", true);
            Check.due("draft(" + s + ")", x.draft(s), false);
            draft(x, "=o", true);
            Check.due("replay around a refused draft", x.replay(), 1);
            Probe.unchanged("draft(" + s + ")", DraftTest::begun, y -> y.draft(s));
        }
    }

    private static void begun(Caller x) {
        makers(x);
        Check.draftAll(x, "a(1)");
    }

    /** False, refused, if one of them is not 32 .. 126: each byte in each of the eight places. */
    private static void bytesInBounds() {
        for (int place = 0; place < 8; place++) {
            for (int b = 1; b < 256; b++) {
                boolean good = b >= 32 && b <= 126;
                long others = Check.pack("zzzzzzzz") & ~(255L << 8 * place);
                Caller x = world();
                long s = others | (long) b << 8 * place;
                Check.due("byte " + b + " in place " + place, x.draft(s), good);
                Check.due("room after byte " + b, room(x), good ? 192 : 200);
            }
            for (int b : new int[] {1, 31, 127, 128, 255}) {
                long s = Check.pack("=oa(1)=o") & ~(255L << 8 * place) | (long) b << 8 * place;
                Probe.unchanged("byte " + b + " in place " + place, DraftTest::begun, y -> y.draft(s));
            }
        }
    }

    /** What is behind that does not matter: also bytes that would be refused. */
    private static void behindTheZeroNothingMatters() {
        for (int size = 1; size < 7; size++) {
            for (long b : new long[] {1, 31, 127, 128, 255}) {
                Caller x = world();
                long s = Check.pack("a(1)=o".substring(0, size)) | b << 8 * (size + 1) | b << 56;
                Check.due("byte " + b + " behind a zero", x.draft(s), true);
                String rest = "a(1)=o".substring(size);
                if (!rest.isEmpty()) {
                    draft(x, rest, true);
                }
                Check.due("replay then", x.replay(), 1);
                Check.due("room then", room(x), 194);
            }
        }
    }

    /** False, refused, if it would have more than 200. */
    private static void twoHundredAtMost() {
        for (int there = 190; there <= 200; there++) {
            for (int more = 1; more <= 8; more++) {
                Caller x = world();
                fill(x, there);
                boolean fits = there + more <= 200;
                draft(x, "zzzzzzzz".substring(0, more), fits);
                Check.due("room with " + there + " and " + more, room(x), 200 - there - (fits ? more : 0));
                int full = there;
                String letters = "zzzzzzzz".substring(0, more);
                if (!fits) {
                    Probe.unchanged("too many letters", y -> fill(y, full), y -> y.draft(Check.pack(letters)));
                }
            }
        }
        Caller x = world();
        fill(x, 199);
        Check.due("what is behind a zero does not count", x.draft('z' | Check.pack("zzzzzz") << 16), true);
        draft(x, "z", false);
        Check.due("draft(0) of a full draft", x.draft(0), true);
        Check.due("room then", room(x), 200);
    }

    private static void fill(Caller x, int letters) {
        for (int i = 0; i < letters; i++) {
            x.draft('z');
        }
    }

    /** Blanks and signs are taken; it is replay that refuses them. */
    private static void draftIsReadAsItStands() {
        Caller x = world();
        draft(x, " ~", true);
        Check.due("replay of a blank and a tilde", x.replay(), -1);
        x.draft(0);
        draft(x, "a(1)=o", true);
        Check.due("replay", x.replay(), 1);
        Check.due("replay again, as the draft stays", x.replay(), 1);
        draft(x, "o", true);
        Check.due("replay with one letter more", x.replay(), -1);
    }
}
