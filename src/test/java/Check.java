/** Counts and prints the answers that are not due, and speaks text to an explorer. */
final class Check {
    private static int wrong = 0;

    private Check() {
    }

    static void due(String call, long got, long want) {
        if (got != want) {
            wrong++;
            System.out.println(call + " answered " + got + ", due is " + want);
        }
    }

    static void due(String call, boolean got, boolean want) {
        due(call, got ? 1 : 0, want ? 1 : 0);
    }

    static void due(String call, String got, String want) {
        if (!got.equals(want)) {
            wrong++;
            System.out.println(call + " answered " + got + ", due is " + want);
        }
    }

    static void end() {
        if (wrong != 0) {
            System.out.println(wrong + " answers are not as due");
            System.exit(1);
        }
    }

    /** The text of an entry, character by character. */
    static String textOf(Caller x, int e) {
        StringBuilder text = new StringBuilder();
        int length = x.text(e, -1);
        for (int i = 0; i < length; i++) {
            text.append((char) x.text(e, i));
        }
        return text.toString();
    }

    /** Up to eight characters as draft takes them. */
    static long pack(String letters) {
        long s = 0;
        for (int i = letters.length() - 1; i >= 0; i--) {
            s = s << 8 | letters.charAt(i);
        }
        return s;
    }

    static boolean draftAll(Caller x, String text) {
        boolean taken = x.draft(0);
        for (int i = 0; i < text.length(); i += 8) {
            taken = x.draft(pack(text.substring(i, Math.min(i + 8, text.length())))) && taken;
        }
        return taken;
    }

    static void replays(Caller x, String text, int want) {
        due("draft of " + text, draftAll(x, text), true);
        due("replay of " + text, x.replay(), want);
    }

    /** The state after so many draws of RANDOM. */
    static int drawn(int state, int draws) {
        int now = state;
        for (int i = 0; i < draws; i++) {
            now = 1103515245 * now + 12345;
        }
        return now;
    }
}
