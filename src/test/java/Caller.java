import java.util.ArrayList;
import java.util.List;

/**
 * An explorer that a test may ask as often as it likes. The document leaves free what an object answers
 * after its 512th call: before one call more it is made anew, and led to where it was by the calls that
 * can change something. What they answer must be the same as before.
 */
final class Caller {
    /** A call of the face; a boolean counts 1 or 0. */
    interface Call {
        long of(CallExplorer x);
    }

    private record Made(Call call, long answer) {
    }

    private static final int MOST_CALLS = 512;

    private final int start;
    private final List<Made> changes = new ArrayList<>();
    private final List<Made> drafts = new ArrayList<>();
    private CallExplorer x;
    private int calls;
    private boolean keepsQuestions;

    Caller(int state) {
        start = state;
        x = new CallExplorer(state);
    }

    /** From here on questions are called again, too, as if they could change something. */
    void keepQuestions(boolean keep) {
        keepsQuestions = keep;
    }

    private long make(Call call) {
        if (calls == MOST_CALLS) {
            makeAnew();
        }
        calls++;
        return call.of(x);
    }

    private void makeAnew() {
        if (changes.size() + drafts.size() >= MOST_CALLS) {
            throw new IllegalStateException("a test changes one object by more than 512 calls");
        }
        x = new CallExplorer(start);
        calls = 0;
        makeAgain(changes);
        makeAgain(drafts);
    }

    private void makeAgain(List<Made> all) {
        for (Made made : all) {
            calls++;
            Check.due("a call of an object made anew", made.call.of(x), made.answer);
        }
    }

    private int change(Call call) {
        long answer = make(call);
        changes.add(new Made(call, answer));
        return (int) answer;
    }

    private int ask(Call call) {
        return keepsQuestions ? change(call) : (int) make(call);
    }

    int type(int parent, int sense, int mark) {
        return change(y -> y.type(parent, sense, mark));
    }

    int operation(int kind, int c, int d) {
        return change(y -> y.operation(kind, c, d));
    }

    int literal(int v) {
        return change(y -> y.literal(v));
    }

    int step() {
        return change(CallExplorer::step);
    }

    int seek(int n) {
        return change(y -> y.seek(n));
    }

    int shorten(int e) {
        return change(y -> y.shorten(e));
    }

    int entries() {
        return ask(CallExplorer::entries);
    }

    int entry(int e, int what) {
        return ask(y -> y.entry(e, what));
    }

    int statement(int e, int k, int what) {
        return ask(y -> y.statement(e, k, what));
    }

    int text(int e, int i) {
        return ask(y -> y.text(e, i));
    }

    boolean draft(long s) {
        Call call = y -> y.draft(s) ? 1 : 0;
        long answer = make(call);
        if (s == 0) {
            drafts.clear();
        }
        drafts.add(new Made(call, answer));
        return answer == 1;
    }

    /** Never called again: its answer depends on the draft, which is made last. */
    int replay() {
        return (int) make(CallExplorer::replay);
    }

    int state() {
        return ask(CallExplorer::state);
    }
}
