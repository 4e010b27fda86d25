import java.util.ArrayList;
import java.util.List;

/**
 * A run whose draws of RANDOM are written out by hand. Each row is one call and what is due then:
 *
 * <pre>
 *   0/2 -/3 1/3 => 0 a(1)=o fresh    a step, with all the draws that it makes and its answer
 *   1/2 x/6 -/3 => LACK
 *   shorten 4 => 2 a(0)b(v0)!1       a call by its name
 * </pre>
 *
 * 1/3 says that RANDOM of 3 is 1, x/3 that it is not 0, -/3 that it does not matter. A state from
 * which these draws come is looked for, so that the class meets just the case that the row is about;
 * after each row its state must be the one behind just so many draws. Where such states are rare, a
 * first row "from 123" says where to begin to look.
 */
final class Script {
    /** Calls that make a world of classes, operations and literals. */
    interface World {
        void make(Caller x);
    }

    private static final int ANY = -1;
    private static final int NOT_ZERO = -2;
    private static final String[] ANSWERS = {"NONE", "LACK", "LONG", "AGAIN", "INVALID", "FULL"};

    private final List<int[]> draws = new ArrayList<>();
    private final String name;
    private long from;
    private int state;
    private Caller x;

    private Script(String name) {
        this.name = name;
    }

    static Caller run(String name, World world, String... rows) {
        Script script = new Script(name);
        for (String row : rows) {
            script.read(row);
        }
        script.state = script.findState();
        script.x = new Caller(script.state);
        world.make(script.x);
        for (String row : rows) {
            if (!isStart(row)) {
                script.play(row);
            }
        }
        return script.x;
    }

    private static String callOf(String row) {
        return row.substring(0, row.indexOf("=>")).trim();
    }

    private static boolean isStep(String row) {
        return !Character.isLetter(row.charAt(0)) || row.charAt(0) == 'x';
    }

    private static boolean isStart(String row) {
        return row.startsWith("from ");
    }

    private void read(String row) {
        if (isStart(row)) {
            from = Long.parseLong(row.substring(5));
        } else if (isStep(row) && !callOf(row).isEmpty()) {
            readDraws(row);
        }
    }

    private void readDraws(String row) {
        for (String draw : callOf(row).split(" +")) {
            String[] sides = draw.split("/");
            int want = sides[0].equals("-") ? ANY : sides[0].equals("x") ? NOT_ZERO : Integer.parseInt(sides[0]);
            draws.add(new int[] {want, Integer.parseInt(sides[1])});
        }
    }

    private int findState() {
        int[][] all = draws.toArray(new int[0][]);
        for (long candidate = from; candidate < 1L << 32; candidate++) {
            if (comesFrom((int) candidate, all)) {
                return (int) candidate;
            }
        }
        throw new IllegalStateException("no state gives the draws of " + name);
    }

    private static boolean comesFrom(int from, int[][] all) {
        int now = from;
        for (int[] draw : all) {
            now = 1103515245 * now + 12345;
            int got = (now >>> 16) % draw[1];
            if (draw[0] == NOT_ZERO ? got == 0 : draw[0] != ANY && draw[0] != got) {
                return false;
            }
        }
        return true;
    }

    private void play(String row) {
        String where = name + " from " + state + ": " + row;
        String[] due = row.substring(row.indexOf("=>") + 2).trim().split(" ");
        String[] call = callOf(row).split(" +");
        int answer = isStep(row) ? step(call) : other(call);
        Check.due(where, worded(answer, isStep(row)), due[0]);
        Check.due(where + " (the state)", x.state(), state);
        if (due.length > 1) {
            int e = isStep(row) ? answer : Integer.parseInt(call[1]);
            Check.due(where + " (the text)", Check.textOf(x, e), due[1]);
            Check.due(where + " (the outcome)", x.entry(e, 0), outcome(due));
        }
    }

    private int step(String[] call) {
        int entries = x.entries();
        int answer = x.step();
        state = Check.drawn(state, call[0].isEmpty() ? 0 : call.length);
        Check.due(name + ": entries after a step", x.entries(), answer < 0 ? entries : entries + 1);
        return answer;
    }

    private int other(String[] call) {
        int[] n = new int[call.length];
        for (int i = 1; i < call.length; i++) {
            n[i] = Integer.parseInt(call[i]);
        }
        return switch (call[0]) {
            case "shorten" -> x.shorten(n[1]);
            case "literal" -> x.literal(n[1]);
            case "operation" -> x.operation(n[1], n[2], n[3]);
            case "type" -> x.type(n[1], n[2], n[3]);
            case "entry" -> x.entry(n[1], n[2]);
            case "statement" -> x.statement(n[1], n[2], n[3]);
            default -> throw new IllegalArgumentException(call[0]);
        };
    }

    private static String worded(int answer, boolean ofStep) {
        return ofStep && answer < 0 && -answer <= ANSWERS.length ? ANSWERS[-answer - 1] : "" + answer;
    }

    private static int outcome(String[] due) {
        if (due[1].contains("!")) {
            return 2;
        }
        return due[1].contains("?") ? 3 : due[2].equals("fresh") ? 0 : 1;
    }
}
