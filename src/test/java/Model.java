import java.util.ArrayList;
import java.util.List;
import java.util.regex.Matcher;
import java.util.regex.Pattern;

/**
 * The document once more, written with real objects, lists and texts and without a thought of room
 * or speed, so that CallExplorer can be held against it.
 */
final class Model {
    /** A class of the explored program. */
    record Type(Type parent, int number, int sense, int mark) {
        boolean is(Type other) {
            return this == other || parent != null && parent.is(other);
        }
    }

    /** An object of the explored program. */
    static final class Thing {
        final Type type;
        final int number;
        int value;
        Thing next;

        Thing(Type type, int number, int value, Thing next) {
            this.type = type;
            this.number = number;
            this.value = value;
            this.next = next;
        }

        boolean equal(Thing y) {
            boolean sameKind = type == y.type && value == y.value;
            return switch (type.sense) {
                case 0 -> this == y;
                case 1 -> sameKind;
                case 2 -> sameKind && (next == null ? y.next == null : y.next != null && next.equal(y.next));
                case 3 -> y.type.is(type) && value == y.value;
                default -> false;
            };
        }

        int code() {
            return switch (type.mark) {
                case 0 -> value;
                case 1 -> 7;
                case 2 -> number;
                default -> 31 * value + type.number;
            };
        }

        String shape() {
            return type.number + ":" + value + (next == null ? "" : ";" + next.shape());
        }
    }

    /** Types are null for a number. */
    record Operation(int kind, Type c, Type d) {
        List<Type> arguments() {
            List<Type> row = new ArrayList<>();
            row.add(kind == 0 ? null : kind == 1 ? d : c);
            if (kind == 3 || kind == 6) {
                row.add(null);
            } else if (kind == 4 || kind == 9) {
                row.add(d);
            }
            return row;
        }

        Type result() {
            return kind == 5 ? d : kind == 0 || kind == 1 || kind == 3 || kind == 4 ? c : null;
        }
    }

    /** form 0 a variable, 1 a literal, 2 null. */
    record Argument(int form, int content) {
        String written() {
            return form == 0 ? "v" + content : form == 1 ? "" + content : "n";
        }
    }

    record Statement(int operation, List<Argument> arguments) {
        String written() {
            List<String> parts = new ArrayList<>();
            for (Argument argument : arguments) {
                parts.add(argument.written());
            }
            return (char) ('a' + operation) + "(" + String.join(",", parts) + ")";
        }
    }

    /** What a run came to; end is its end as text, shape null unless it went well. */
    record Result(int outcome, int detail, int number, String end, String shape) {
    }

    static final class Entry {
        List<Statement> statements;
        Result result;
        int outcome;
    }

    static final class Trouble extends Exception {
        private static final long serialVersionUID = 1;
        final int which;

        Trouble(int which) {
            this.which = which;
        }
    }

    final List<Type> types = new ArrayList<>();
    final List<Operation> operations = new ArrayList<>();
    final List<Integer> literals = new ArrayList<>(List.of(0, 1, -1));
    final List<Entry> book = new ArrayList<>();
    String draft = "";
    int state;

    Model(int state) {
        this.state = state;
    }

    private boolean isType(int t) {
        return t >= 1 && t <= types.size();
    }

    int type(int parent, int sense, int mark) {
        if (types.size() == 4 || !operations.isEmpty() || parent != 0 && !isType(parent)
            || sense < 0 || sense > 4 || mark < 0 || mark > 3) {
            return -1;
        }
        types.add(new Type(parent == 0 ? null : types.get(parent - 1), types.size() + 1, sense, mark));
        return types.size();
    }

    int operation(int kind, int c, int d) {
        boolean hasD = kind == 1 || kind == 4 || kind == 5 || kind == 9;
        if (operations.size() == 10 || kind < 0 || kind > 9 || !isType(c) || hasD && !isType(d)) {
            return -1;
        }
        operations.add(new Operation(kind, types.get(c - 1), hasD ? types.get(d - 1) : null));
        return operations.size() - 1;
    }

    int literal(int v) {
        if (literals.size() == 8 || literals.contains(v)) {
            return -1;
        }
        literals.add(v);
        return literals.size() - 1;
    }

    private int random(int n) {
        state = 1103515245 * state + 12345;
        return (state >>> 16) % n;
    }

    private Type resultOf(List<Statement> row, int k) {
        return operations.get(row.get(k).operation).result();
    }

    private boolean fits(Type given, Type wanted) {
        return wanted == null ? given == null : given != null && given.is(wanted);
    }

    private List<Entry> freshOf(Type wanted) {
        List<Entry> found = new ArrayList<>();
        for (Entry entry : book) {
            if (entry.outcome == 0 && fits(typeOf(entry), wanted)) {
                found.add(entry);
            }
        }
        return found;
    }

    private Type typeOf(Entry entry) {
        return resultOf(entry.statements, entry.statements.size() - 1);
    }

    private static final int LACK = -2;
    private static final int LONG = -3;

    int step() {
        if (book.size() == 40) {
            return -6;
        }
        if (operations.isEmpty()) {
            return -1;
        }
        int operation = random(operations.size());
        List<Statement> row = new ArrayList<>();
        List<Argument> chosen = new ArrayList<>();
        for (Type wanted : operations.get(operation).arguments()) {
            int end = wanted == null ? chooseNumber(row, chosen) : chooseObject(wanted, row, chosen);
            if (end != 0) {
                return end;
            }
        }
        row.add(new Statement(operation, chosen));
        for (Entry entry : book) {
            if (entry.statements.equals(row)) {
                return -4;
            }
        }
        Result result = run(row);
        if (result.outcome == 4) {
            return -5;
        }
        Entry entry = new Entry();
        entry.statements = row;
        entry.result = result;
        entry.outcome = result.outcome;
        for (Entry other : book) {
            if (result.outcome == 0 && other.outcome == 0 && other.result.shape.equals(result.shape)) {
                entry.outcome = 1;
            }
        }
        book.add(entry);
        return book.size() - 1;
    }

    private int chooseNumber(List<Statement> row, List<Argument> chosen) {
        if (random(3) == 0 && !freshOf(null).isEmpty()) {
            return take(null, row, chosen);
        }
        chosen.add(new Argument(1, literals.get(random(literals.size()))));
        return 0;
    }

    private int chooseObject(Type wanted, List<Statement> row, List<Argument> chosen) {
        if (random(6) == 0) {
            chosen.add(new Argument(2, 0));
            return 0;
        }
        boolean same = random(3) == 0;
        if (same && chosen.size() == 1 && chosen.get(0).form == 0
            && fits(resultOf(row, chosen.get(0).content), wanted)) {
            chosen.add(chosen.get(0));
            return 0;
        }
        return take(wanted, row, chosen);
    }

    private int take(Type wanted, List<Statement> row, List<Argument> chosen) {
        List<Entry> found = freshOf(wanted);
        if (found.isEmpty()) {
            return LACK;
        }
        int before = row.size();
        for (Statement statement : found.get(random(found.size())).statements) {
            row.add(renumbered(statement, 0, before));
        }
        if (row.size() > 9) {
            return LONG;
        }
        chosen.add(new Argument(0, row.size() - 1));
        return 0;
    }

    private Statement renumbered(Statement statement, int from, int by) {
        List<Argument> moved = new ArrayList<>();
        for (Argument old : statement.arguments) {
            moved.add(old.form == 0 && old.content >= from ? new Argument(0, old.content + by) : old);
        }
        return new Statement(statement.operation, moved);
    }

    Result run(List<Statement> row) {
        List<Thing> things = new ArrayList<>();
        List<Object> results = new ArrayList<>();
        for (Statement statement : row) {
            List<Object> values = new ArrayList<>();
            for (Argument argument : statement.arguments) {
                values.add(argument.form == 0 ? results.get(argument.content)
                    : argument.form == 1 ? (Object) argument.content : null);
            }
            try {
                results.add(call(operations.get(statement.operation), values, things));
            } catch (Trouble trouble) {
                if (trouble.which == 5) {
                    boolean invalid = values.contains(null);
                    return new Result(invalid ? 4 : 3, 4, 0, "?4", null);
                }
                return new Result(2, trouble.which, 0, "!" + trouble.which, null);
            }
        }
        Object last = results.get(results.size() - 1);
        int number = last instanceof Integer n ? n : 0;
        int fault = faultOf(things);
        if (fault != 0) {
            return new Result(3, fault, number, "?" + fault, null);
        }
        String end = last == null ? "=n" : last instanceof Integer ? "=" + last : "=o";
        String shape = last instanceof Thing thing ? thing.shape() : end;
        return new Result(0, 0, number, end, shape);
    }

    private Object call(Operation operation, List<Object> values, List<Thing> things) throws Trouble {
        Object first = values.get(0);
        if (operation.kind == 0) {
            return made(operation.c, (Integer) first, null, things);
        }
        if (first == null) {
            throw new Trouble(5);
        }
        Thing x = (Thing) first;
        Object y = values.size() > 1 ? values.get(1) : null;
        switch (operation.kind) {
            case 1:
                return made(operation.c, x.value, x, things);
            case 2:
                return x.value;
            case 3:
                x.value = checked((long) x.value + (Integer) y);
                return x;
            case 4:
                for (Thing at = (Thing) y; at != null; at = at.next) {
                    if (at == x) {
                        throw new Trouble(2);
                    }
                }
                x.next = (Thing) y;
                return x;
            case 5:
                if (x.next != null && !x.next.type.is(operation.d)) {
                    throw new Trouble(3);
                }
                return x.next;
            case 6:
                if ((Integer) y == 0) {
                    throw new Trouble(4);
                }
                return x.value / (Integer) y;
            case 7:
                if (x.next == null) {
                    throw new Trouble(5);
                }
                return x.next.value;
            case 8:
                return x.shape().split(";").length;
            default:
                return y != null && x.equal((Thing) y) ? 1 : 0;
        }
    }

    private int checked(long value) throws Trouble {
        if (value < -100 || value > 100) {
            throw new Trouble(1);
        }
        return (int) value;
    }

    private Thing made(Type type, int value, Thing next, List<Thing> things) throws Trouble {
        Thing thing = new Thing(type, things.size(), checked(value), next);
        things.add(thing);
        return thing;
    }

    private int faultOf(List<Thing> things) {
        for (Thing x : things) {
            if (!x.equal(x)) {
                return 1;
            }
        }
        for (Thing x : things) {
            for (Thing y : things.subList(x.number + 1, things.size())) {
                if (x.equal(y) ^ y.equal(x)) {
                    return 2;
                }
                if (x.equal(y) && x.code() != y.code()) {
                    return 3;
                }
            }
        }
        return 0;
    }

    int seek(int n) {
        if (n < 1 || n > 20) {
            return -1;
        }
        for (int i = 0; i < n; i++) {
            int e = step();
            if (e >= 0 && book.get(e).outcome == 3) {
                return e;
            }
        }
        return -1;
    }

    private Entry at(int e) {
        return e >= 0 && e < book.size() ? book.get(e) : null;
    }

    int shorten(int e) {
        Entry entry = at(e);
        if (entry == null || entry.outcome < 2) {
            return -1;
        }
        for (int k = 0; k < entry.statements.size(); k++) {
            for (int a = 0; a < entry.statements.get(k).arguments.size(); a++) {
                lower(entry, k, a);
            }
        }
        for (int k = entry.statements.size() - 2; k >= 0; k--) {
            drop(entry, k);
        }
        for (int k = 0; k < entry.statements.size(); k++) {
            for (int a = 0; a < entry.statements.get(k).arguments.size(); a++) {
                Argument old = entry.statements.get(k).arguments.get(a);
                if (old.form == 1 && old.content != 0) {
                    attempt(entry, replaced(entry.statements, k, a, new Argument(1, 0)));
                }
            }
        }
        return entry.statements.size();
    }

    private void lower(Entry entry, int k, int a) {
        Argument old = entry.statements.get(k).arguments.get(a);
        if (old.form != 0) {
            return;
        }
        Type wanted = operations.get(entry.statements.get(k).operation).arguments().get(a);
        if (wanted == null) {
            attempt(entry, replaced(entry.statements, k, a, new Argument(1, 0)));
            return;
        }
        int least = 0;
        while (!fits(resultOf(entry.statements, least), wanted)) {
            least++;
        }
        if (least < old.content) {
            attempt(entry, replaced(entry.statements, k, a, new Argument(0, least)));
        }
    }

    private void drop(Entry entry, int k) {
        List<Statement> rest = new ArrayList<>();
        for (int i = 0; i < entry.statements.size(); i++) {
            if (entry.statements.get(i).arguments.contains(new Argument(0, k))) {
                return;
            }
            if (i != k) {
                rest.add(renumbered(entry.statements.get(i), k, -1));
            }
        }
        attempt(entry, rest);
    }

    private List<Statement> replaced(List<Statement> row, int k, int a, Argument by) {
        List<Statement> copy = new ArrayList<>(row);
        List<Argument> arguments = new ArrayList<>(row.get(k).arguments);
        arguments.set(a, by);
        copy.set(k, new Statement(row.get(k).operation, arguments));
        return copy;
    }

    private void attempt(Entry entry, List<Statement> row) {
        Result result = run(row);
        if (result.outcome == entry.outcome && result.detail == entry.result.detail) {
            entry.statements = row;
        }
    }

    int entry(int e, int what) {
        Entry entry = at(e);
        if (entry == null) {
            return -1;
        }
        return switch (what) {
            case 0 -> entry.outcome;
            case 1 -> entry.result.detail;
            case 2 -> entry.statements.size();
            case 3 -> typeOf(entry) == null ? 0 : typeOf(entry).number;
            case 4 -> entry.result.number;
            default -> -1;
        };
    }

    int statement(int e, int k, int what) {
        Entry entry = at(e);
        if (entry == null || k < 0 || k >= entry.statements.size() || what < 0 || what > 4) {
            return -2;
        }
        Statement statement = entry.statements.get(k);
        if (what == 0) {
            return statement.operation;
        }
        int a = (what - 1) / 2;
        if (a >= statement.arguments.size()) {
            return what % 2 == 1 ? -1 : 0;
        }
        Argument argument = statement.arguments.get(a);
        return what % 2 == 1 ? argument.form : argument.content;
    }

    String textOf(int e) {
        StringBuilder text = new StringBuilder();
        for (Statement statement : book.get(e).statements) {
            text.append(statement.written());
        }
        return text.append(book.get(e).result.end).toString();
    }

    int text(int e, int i) {
        if (at(e) == null) {
            return -2;
        }
        String text = textOf(e);
        return i == -1 ? text.length() : i >= 0 && i < text.length() ? text.charAt(i) : -2;
    }

    boolean draft(long s) {
        if (s == 0) {
            draft = "";
            return true;
        }
        StringBuilder more = new StringBuilder();
        for (long rest = s; (rest & 255) != 0; rest >>>= 8) {
            more.append((char) (rest & 255));
        }
        if (!more.toString().matches("[ -~]+") || draft.length() + more.length() > 200) {
            return false;
        }
        draft += more;
        return true;
    }

    private static final String NUMBER = "(?:0|-?[1-9][0-9]*)";
    private static final String WORD = "(?:v(?:0|[1-9][0-9]*)|n|" + NUMBER + ")";
    private static final Pattern CALL = Pattern.compile("([a-z])\\((" + WORD + ")(?:,(" + WORD + "))?\\)");
    private static final Pattern END = Pattern.compile("![1-5]|\\?[1-4]|=(?:n|o|" + NUMBER + ")");

    private static boolean isInt(String digits) {
        java.math.BigInteger n = new java.math.BigInteger(digits);
        return n.bitLength() <= 31;
    }

    int replay() {
        List<Statement> row = new ArrayList<>();
        Matcher call = CALL.matcher(draft);
        int from = 0;
        while (call.region(from, draft.length()).lookingAt()) {
            Statement statement = read(call, row);
            if (statement == null || row.size() == 10) {
                return -1;
            }
            row.add(statement);
            from = call.end();
        }
        String end = draft.substring(from);
        if (row.isEmpty() || !END.matcher(end).matches()) {
            return -1;
        }
        if (end.matches("=-?[0-9]+") && !isInt(end.substring(1))) {
            return -1;
        }
        Result result = run(row);
        return result.outcome != 4 && result.end.equals(end) ? 1 : 0;
    }

    private Statement read(Matcher call, List<Statement> row) {
        int operation = call.group(1).charAt(0) - 'a';
        if (operation >= operations.size()) {
            return null;
        }
        List<Type> wanted = operations.get(operation).arguments();
        if (wanted.size() != (call.group(3) == null ? 1 : 2)) {
            return null;
        }
        List<Argument> arguments = new ArrayList<>();
        for (int a = 0; a < wanted.size(); a++) {
            Argument argument = readArgument(call.group(2 + a), wanted.get(a), row);
            if (argument == null) {
                return null;
            }
            arguments.add(argument);
        }
        return new Statement(operation, arguments);
    }

    private Argument readArgument(String word, Type wanted, List<Statement> row) {
        if (word.equals("n")) {
            return wanted == null ? null : new Argument(2, 0);
        }
        boolean variable = word.startsWith("v");
        String digits = variable ? word.substring(1) : word;
        if (!isInt(digits)) {
            return null;
        }
        int n = Integer.parseInt(digits);
        if (!variable) {
            return wanted == null ? new Argument(1, n) : null;
        }
        return n < row.size() && fits(resultOf(row, n), wanted) ? new Argument(0, n) : null;
    }
}
