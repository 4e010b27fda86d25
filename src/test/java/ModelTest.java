import java.util.Random;

/** Long random runs of calls on CallExplorer and on the model, whose answers must be alike. */
final class ModelTest {
    private static final int RUNS = 8000;
    /** As many as an object is used for. */
    private static final int CALLS = 512;
    /** More than any turn makes: the longest text by eights, its replay, and some to spare. */
    private static final int CALLS_OF_A_TURN = 60;
    private static final int[] NUMBERS = {100, -100, 50, 5, 2, -7, 99, 101, Integer.MAX_VALUE, Integer.MIN_VALUE};
    private static final String LETTERS = "abcdefghijknovz0123456789-(),=!? ";

    private final Random dice;
    private final CallExplorer x;
    private final Model model;
    private final int run;
    private int calls;

    private ModelTest(int run) {
        this.run = run;
        dice = new Random(run);
        int state = dice.nextInt();
        x = new CallExplorer(state);
        model = new Model(state);
    }

    public static void main(String[] args) {
        int[] outcomes = new int[4];
        for (int run = 0; run < RUNS; run++) {
            ModelTest test = new ModelTest(run);
            test.go();
            for (Model.Entry entry : test.model.book) {
                outcomes[entry.outcome]++;
            }
        }
        for (int outcome = 0; outcome < 4; outcome++) {
            Check.due("enough entries of outcome " + outcome, outcomes[outcome] > RUNS, true);
        }
        Check.end();
    }

    private void due(String call, long got, long want) {
        calls++;
        Check.due("run " + run + ": " + call, got, want);
    }

    private void go() {
        makeTypes();
        for (int i = dice.nextInt(6); i >= 0; i--) {
            makeOperation();
            makeLiteral();
        }
        if (dice.nextInt(3) > 0) {
            fillOperations();
        }
        int likelySteps = dice.nextInt(10);
        while (calls < CALLS - CALLS_OF_A_TURN) {
            if (dice.nextInt(10) < likelySteps) {
                due("step()", x.step(), model.step());
            } else {
                oneTurn();
            }
        }
        while (calls < CALLS - 1) {
            due("step()", x.step(), model.step());
        }
        due("state()", x.state(), model.state);
        Check.due("calls of run " + run, calls, CALLS);
    }

    private void makeTypes() {
        for (int i = dice.nextInt(6); i >= 0; i--) {
            int parent = dice.nextInt(i + 2) - (dice.nextInt(9) == 0 ? 1 : 0);
            int sense = dice.nextInt(12) == 0 ? dice.nextInt(7) - 1 : dice.nextInt(4);
            int mark = dice.nextInt(12) == 0 ? dice.nextInt(6) - 1 : dice.nextInt(4);
            due("type(" + parent + ", " + sense + ", " + mark + ")",
                x.type(parent, sense, mark), model.type(parent, sense, mark));
        }
    }

    private void fillOperations() {
        for (int c = 1; c <= 2; c++) {
            int kind = c - 1;
            due("operation", x.operation(kind, c, 1), model.operation(kind, c, 1));
        }
        for (int i = 0; i < 8; i++) {
            makeOperation();
        }
    }

    private void makeOperation() {
        int kind = wild(dice.nextInt(11) - (dice.nextInt(20) == 0 ? 1 : 0));
        int c = wild(dice.nextInt(5));
        int d = wild(dice.nextInt(5));
        due("operation(" + kind + ", " + c + ", " + d + ")",
            x.operation(kind, c, d), model.operation(kind, c, d));
    }

    private void makeLiteral() {
        int v = dice.nextInt(3) == 0 ? dice.nextInt(5) - 2 : NUMBERS[dice.nextInt(NUMBERS.length)];
        due("literal(" + v + ")", x.literal(v), model.literal(v));
    }

    private int someEntry() {
        return wild(dice.nextInt(model.book.size() + 3) - 1);
    }

    /** The number itself, or now and then one far out of all bounds. */
    private int wild(int n) {
        return dice.nextInt(30) == 0 ? dice.nextInt() : n;
    }

    private void oneTurn() {
        int e = someEntry();
        int k = wild(dice.nextInt(12) - 1);
        int what = wild(dice.nextInt(7) - 1);
        int n = wild(dice.nextInt(23) - 1);
        switch (dice.nextInt(12)) {
            case 0 -> makeOperation();
            case 1 -> makeLiteral();
            case 2 -> due("seek(" + n + ")", x.seek(n), model.seek(n));
            case 3 -> due("shorten(" + e + ")", x.shorten(e), model.shorten(e));
            case 4 -> due("entries()", x.entries(), model.book.size());
            case 5 -> due("entry(" + e + ", " + what + ")", x.entry(e, what), model.entry(e, what));
            case 6 -> due("statement(" + e + ", " + k + ", " + what + ")",
                x.statement(e, k, what), model.statement(e, k, what));
            case 7 -> compareText(e);
            case 8 -> compareDraft();
            case 9 -> due("state()", x.state(), model.state);
            default -> compareReplay(e);
        }
    }

    private void compareText(int e) {
        int length = model.text(e, -1);
        int from = dice.nextInt(Math.max(1, length));
        for (int i : new int[] {-2, -1, from, from + 1, from + 2, from + 3, length - 1, length, length + 1}) {
            due("text(" + e + ", " + i + ")", x.text(e, i), model.text(e, i));
        }
        int i = wild(dice.nextInt(210));
        due("text(" + e + ", " + i + ")", x.text(e, i), model.text(e, i));
    }

    private void compareDraft() {
        long s = dice.nextLong();
        if (dice.nextBoolean()) {
            s = s & 0x5f5f5f5f5f5f5f5fL | 0x2020202020202020L;
        }
        s = dice.nextInt(4) == 0 ? s & -1L >>> 8 * dice.nextInt(8) : s;
        s = dice.nextInt(9) == 0 ? s << 8 : s;
        due("draft(" + s + ")", x.draft(s) ? 1 : 0, model.draft(s) ? 1 : 0);
    }

    private void compareReplay(int e) {
        boolean ofEntry = e >= 0 && e < model.book.size();
        StringBuilder text = new StringBuilder(ofEntry ? model.textOf(e) : "a(1)b(v0)=o");
        if (ofEntry && dice.nextInt(4) == 0) {
            join(text);
        }
        for (int i = dice.nextInt(3); i > 0; i--) {
            spoil(text);
        }
        for (int i = -8; i < text.length(); i += 8) {
            long s = i < 0 ? 0 : Check.pack(text.substring(i, Math.min(i + 8, text.length())));
            due("draft(" + s + ")", x.draft(s) ? 1 : 0, model.draft(s) ? 1 : 0);
        }
        due("replay of " + model.draft, x.replay(), model.replay());
    }

    /** Puts another entry behind, whose variables then mean other statements. */
    private void join(StringBuilder text) {
        int cut = text.lastIndexOf(")") + 1;
        text.setLength(cut);
        text.append(model.textOf(dice.nextInt(model.book.size())));
    }

    private void spoil(StringBuilder text) {
        int at = dice.nextInt(text.length());
        char letter = LETTERS.charAt(dice.nextInt(LETTERS.length()));
        switch (dice.nextInt(4)) {
            case 0 -> text.insert(at, letter);
            case 1 -> text.setCharAt(at, letter);
            case 2 -> text.setCharAt(at, Character.isDigit(text.charAt(at)) ? '0' : text.charAt(at));
            default -> {
                if (text.length() > 1) {
                    text.deleteCharAt(at);
                }
            }
        }
    }
}
