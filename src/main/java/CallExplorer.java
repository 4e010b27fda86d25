import java.util.Arrays;

/**
 * Grows sequences of calls over small classes at random, keeps those that are new, finds objects
 * that break the rules of equality, and writes sequences as text that can be read and run again.
 */
public final class CallExplorer {
    public static final int NONE = -1, LACK = -2, LONG = -3, AGAIN = -4, INVALID = -5, FULL = -6;

    private static final int REFUSED = -1;
    private static final int MISSING = -2;

    private static final int MAX_CLASSES = 4;
    private static final int MAX_OPERATIONS = 10;
    private static final int MAX_LITERALS = 8;
    private static final int MAX_STATEMENTS = 10;
    private static final int MAX_TAKEN = 9;
    private static final int MAX_ENTRIES = 40;
    private static final int MAX_SEEK = 20;
    private static final int MAX_TEXT = 200;
    private static final int MAX_VALUE = 100;

    private static final int NO_TYPE = -1;
    private static final int NUMBER = 0;

    private static final int SENSE_SAME = 0;
    private static final int SENSE_ALIKE = 1;
    // Sense 2 has no name: it is what is left when the others are told apart.
    private static final int SENSE_KIN = 3;
    private static final int SENSE_NEVER = 4;

    private static final int MARK_VALUE = 0;
    private static final int MARK_SEVEN = 1;
    private static final int MARK_NUMBER = 2;
    private static final int MARK_MIXED = 3;

    private static final int MAKE = 0;
    private static final int WRAP = 1;
    private static final int GET_VALUE = 2;
    private static final int ADD = 3;
    private static final int LINK = 4;
    private static final int GET_NEXT = 5;
    private static final int DIVIDE = 6;
    private static final int NEXT_VALUE = 7;
    private static final int COUNT = 8;
    private static final int COMPARE = 9;

    private static final int ROLE_NUMBER = 0;
    private static final int ROLE_C = 1;
    private static final int ROLE_D = 2;

    // One column for each kind: the roles of the arguments (-1: there is none) and of the result.
    private static final int[] FIRST_ROLES = {0, 2, 1, 1, 1, 1, 1, 1, 1, 1};
    private static final int[] SECOND_ROLES = {-1, -1, -1, 0, 2, -1, 0, -1, -1, 2};
    private static final int[] RESULT_ROLES = {1, 1, 0, 1, 1, 2, 0, 0, 0, 0};

    private static final int NO_TROUBLE = 0;
    private static final int RANGE_TROUBLE = 1;
    private static final int LOOP_TROUBLE = 2;
    private static final int CAST_TROUBLE = 3;
    private static final int ZERO_TROUBLE = 4;
    private static final int NULL_TROUBLE = 5;

    private static final int NO_FAULT = 0;
    private static final int FAULT_SELF = 1;
    private static final int FAULT_ONE_WAY = 2;
    private static final int FAULT_CODES = 3;
    private static final int FAULT_NULL = 4;

    private static final int FRESH = 0;
    private static final int STALE = 1;
    private static final int TROUBLED = 2;
    private static final int FAULTY = 3;
    private static final int NOT_ALLOWED = 4;

    private static final int FORM_NONE = -1;
    private static final int FORM_VARIABLE = 0;
    private static final int FORM_LITERAL = 1;
    private static final int FORM_NULL = 2;

    private static final int GAVE_NOTHING = 0;
    private static final int GAVE_NUMBER = 1;
    private static final int GAVE_NULL = 2;
    private static final int GAVE_OBJECT = 3;

    // The object that is none: objects are numbered from 0.
    private static final int NIL = -1;

    // A statement is laid out as statement(e, k, what) asks for it.
    private static final int WIDTH = 5;
    private static final int MAX_ARGUMENTS = 2;

    private static final int[] TENS = {
        1000000000, 100000000, 10000000, 1000000, 100000, 10000, 1000, 100, 10, 1
    };

    private final Catalog catalog;
    private final Book book;
    private final Runner runner;
    private final Grower grower;
    private final Shortener shortener;
    private final Writer writer;
    private final Reader reader;

    public CallExplorer(int state) {
        catalog = new Catalog();
        book = new Book(catalog);
        runner = new Runner(catalog);
        grower = new Grower(catalog, book, runner, state);
        shortener = new Shortener(catalog, runner);
        writer = new Writer();
        reader = new Reader(catalog);
    }

    public int type(int parent, int sense, int mark) {
        return catalog.addClass(parent, sense, mark);
    }

    public int operation(int kind, int c, int d) {
        return catalog.addOperation(kind, c, d);
    }

    public int literal(int v) {
        return grower.addLiteral(v);
    }

    public int step() {
        return grower.grow();
    }

    public int seek(int n) {
        if (n < 1 || n > MAX_SEEK) {
            return REFUSED;
        }
        for (int i = 0; i < n; i++) {
            Entry made = book.get(grower.grow());
            if (made != null && made.outcome == FAULTY) {
                return book.size - 1;
            }
        }
        return REFUSED;
    }

    public int shorten(int e) {
        Entry entry = book.get(e);
        if (entry == null || entry.outcome != TROUBLED && entry.outcome != FAULTY) {
            return REFUSED;
        }
        shortener.lowerVariables(entry);
        shortener.dropStatements(entry);
        shortener.zeroLiterals(entry);
        return entry.sequence.size;
    }

    public int entries() {
        return book.size;
    }

    public int entry(int e, int what) {
        Entry entry = book.get(e);
        if (entry == null) {
            return REFUSED;
        }
        switch (what) {
            case 0:
                return entry.outcome;
            case 1:
                return entry.detail;
            case 2:
                return entry.sequence.size;
            case 3:
                return entry.type;
            case 4:
                return entry.number;
            default:
                return REFUSED;
        }
    }

    public int statement(int e, int k, int what) {
        Entry entry = book.get(e);
        if (entry == null || k < 0 || k >= entry.sequence.size || what < 0 || what >= WIDTH) {
            return MISSING;
        }
        return entry.sequence.cells[k * WIDTH + what];
    }

    public int text(int e, int i) {
        Entry entry = book.get(e);
        if (entry == null) {
            return MISSING;
        }
        writer.write(entry);
        if (i == -1) {
            return writer.length;
        }
        return i >= 0 && i < writer.length ? writer.letters[i] : MISSING;
    }

    public boolean draft(long s) {
        return reader.addToDraft(s);
    }

    public int replay() {
        if (!reader.read()) {
            return REFUSED;
        }
        runner.run(reader.sequence);
        return reader.foretold(runner) ? 1 : 0;
    }

    public int state() {
        return grower.seed;
    }

    /** The classes and operations that there are. */
    private static final class Catalog {
        int classes;
        int operations;
        final int[] parents = new int[MAX_CLASSES + 1];
        final int[] senses = new int[MAX_CLASSES + 1];
        final int[] marks = new int[MAX_CLASSES + 1];
        final int[] kinds = new int[MAX_OPERATIONS];
        final int[] firstTypes = new int[MAX_OPERATIONS];
        final int[] secondTypes = new int[MAX_OPERATIONS];
        final int[] resultTypes = new int[MAX_OPERATIONS];

        int addClass(int parent, int sense, int mark) {
            boolean closed = classes >= MAX_CLASSES || operations > 0;
            if (closed || parent != 0 && !isClass(parent)) {
                return REFUSED;
            }
            if (sense < SENSE_SAME || sense > SENSE_NEVER || mark < MARK_VALUE || mark > MARK_MIXED) {
                return REFUSED;
            }
            classes++;
            parents[classes] = parent;
            senses[classes] = sense;
            marks[classes] = mark;
            return classes;
        }

        int addOperation(int kind, int c, int d) {
            if (operations >= MAX_OPERATIONS || kind < MAKE || kind > COMPARE || !isClass(c)) {
                return REFUSED;
            }
            if (hasPartner(kind) && !isClass(d)) {
                return REFUSED;
            }
            kinds[operations] = kind;
            firstTypes[operations] = typeOf(FIRST_ROLES[kind], c, d);
            secondTypes[operations] = typeOf(SECOND_ROLES[kind], c, d);
            resultTypes[operations] = typeOf(RESULT_ROLES[kind], c, d);
            operations++;
            return operations - 1;
        }

        private boolean isClass(int t) {
            return t >= 1 && t <= classes;
        }

        private boolean hasPartner(int kind) {
            return FIRST_ROLES[kind] == ROLE_D || SECOND_ROLES[kind] == ROLE_D
                || RESULT_ROLES[kind] == ROLE_D;
        }

        private int typeOf(int role, int c, int d) {
            switch (role) {
                case ROLE_NUMBER:
                    return NUMBER;
                case ROLE_C:
                    return c;
                case ROLE_D:
                    return d;
                default:
                    return NO_TYPE;
            }
        }

        int argumentType(int operation, int argument) {
            return argument == 0 ? firstTypes[operation] : secondTypes[operation];
        }

        /** Whether a thing of the one type may stand where the other is wanted. */
        boolean is(int given, int wanted) {
            if (given == wanted) {
                return true;
            }
            int at = given;
            for (int i = 0; i < MAX_CLASSES && at > 0; i++) {
                if (at == wanted) {
                    return true;
                }
                at = parents[at];
            }
            return false;
        }
    }

    /** A row of statements, with room for as many as a sequence may have. */
    private static final class Sequence {
        int size;
        final int[] cells = new int[MAX_STATEMENTS * WIDTH];

        int operationOf(int k) {
            return cells[k * WIDTH];
        }

        int form(int k, int argument) {
            return cells[k * WIDTH + 1 + 2 * argument];
        }

        int content(int k, int argument) {
            return cells[k * WIDTH + 2 + 2 * argument];
        }

        void setArgument(int k, int argument, int form, int content) {
            cells[k * WIDTH + 1 + 2 * argument] = form;
            cells[k * WIDTH + 2 + 2 * argument] = content;
        }

        boolean isVariable(int k, int argument) {
            return cells[k * WIDTH + 1 + 2 * argument] == FORM_VARIABLE;
        }

        void clear() {
            size = 0;
        }

        /** Puts a statement without arguments behind the others; its caller sees to the room. */
        int push(int operation) {
            int k = size;
            cells[k * WIDTH] = operation;
            setArgument(k, 0, FORM_NONE, 0);
            setArgument(k, 1, FORM_NONE, 0);
            size++;
            return k;
        }

        /** Puts all of the other's statements behind these; its caller sees to the room. */
        void append(Sequence other) {
            int before = size;
            System.arraycopy(other.cells, 0, cells, before * WIDTH, other.size * WIDTH);
            size += other.size;
            moveVariables(before, 0, before);
        }

        void copy(Sequence other) {
            System.arraycopy(other.cells, 0, cells, 0, other.size * WIDTH);
            size = other.size;
        }

        boolean same(Sequence other) {
            if (size != other.size) {
                return false;
            }
            for (int i = 0; i < size * WIDTH; i++) {
                if (cells[i] != other.cells[i]) {
                    return false;
                }
            }
            return true;
        }

        boolean usesLater(int k) {
            for (int later = k + 1; later < size; later++) {
                for (int a = 0; a < MAX_ARGUMENTS; a++) {
                    if (isVariable(later, a) && content(later, a) == k) {
                        return true;
                    }
                }
            }
            return false;
        }

        void remove(int k) {
            int behind = (k + 1) * WIDTH;
            System.arraycopy(cells, behind, cells, k * WIDTH, size * WIDTH - behind);
            size--;
            moveVariables(k, k, -1);
        }

        private void moveVariables(int from, int least, int by) {
            for (int k = from; k < size; k++) {
                for (int a = 0; a < MAX_ARGUMENTS; a++) {
                    if (isVariable(k, a) && content(k, a) >= least) {
                        setArgument(k, a, FORM_VARIABLE, content(k, a) + by);
                    }
                }
            }
        }
    }

    /** The objects of one run. A statement makes one at most, and nexts never go round. */
    private static final class Heap {
        final Catalog catalog;
        int count;
        final int[] classes = new int[MAX_STATEMENTS];
        final int[] values = new int[MAX_STATEMENTS];
        final int[] nexts = new int[MAX_STATEMENTS];

        Heap(Catalog catalog) {
            this.catalog = catalog;
        }

        int make(int ofClass, int value, int next) {
            int x = count;
            classes[x] = ofClass;
            values[x] = value;
            nexts[x] = next;
            count++;
            return x;
        }

        boolean reaches(int from, int wanted) {
            int at = from;
            for (int i = 0; i < count && at != NIL && at != wanted; i++) {
                at = nexts[at];
            }
            return at == wanted;
        }

        int chainLength(int from) {
            int length = 0;
            int at = from;
            for (int i = 0; i < count && at != NIL; i++) {
                at = nexts[at];
                length++;
            }
            return length;
        }

        boolean equal(int first, int second) {
            int x = first;
            int y = second;
            for (int i = 0; i < count; i++) {
                int sense = catalog.senses[classes[x]];
                if (sense == SENSE_SAME) {
                    return x == y;
                }
                if (sense == SENSE_NEVER || values[x] != values[y]) {
                    return false;
                }
                if (sense == SENSE_KIN) {
                    return catalog.is(classes[y], classes[x]);
                }
                if (classes[x] != classes[y]) {
                    return false;
                }
                if (sense == SENSE_ALIKE) {
                    return true;
                }
                x = nexts[x];
                y = nexts[y];
                if (x == NIL || y == NIL) {
                    return x == y;
                }
            }
            return false;
        }

        private int code(int x) {
            switch (catalog.marks[classes[x]]) {
                case MARK_VALUE:
                    return values[x];
                case MARK_SEVEN:
                    return 7;
                case MARK_NUMBER:
                    return x;
                default:
                    return 31 * values[x] + classes[x];
            }
        }

        int findFault() {
            for (int x = 0; x < count; x++) {
                if (!equal(x, x)) {
                    return FAULT_SELF;
                }
            }
            for (int x = 0; x < count; x++) {
                for (int y = x + 1; y < count; y++) {
                    int fault = faultOfPair(x, y);
                    if (fault != NO_FAULT) {
                        return fault;
                    }
                }
            }
            return NO_FAULT;
        }

        private int faultOfPair(int x, int y) {
            boolean there = equal(x, y);
            boolean back = equal(y, x);
            if (there != back) {
                return FAULT_ONE_WAY;
            }
            return there && code(x) != code(y) ? FAULT_CODES : NO_FAULT;
        }
    }

    /** Runs a sequence and holds what came of it until the next run. */
    private static final class Runner {
        final Catalog catalog;
        final Heap heap;
        final int[] results = new int[MAX_STATEMENTS];
        // FRESH stands here for every run that went well: what is stale only the book can tell.
        int outcome;
        int detail;
        int gave;
        int number;
        int rowLength;
        final int[] row = new int[2 * MAX_STATEMENTS];

        Runner(Catalog catalog) {
            this.catalog = catalog;
            heap = new Heap(catalog);
        }

        void run(Sequence sequence) {
            heap.count = 0;
            gave = GAVE_NOTHING;
            number = 0;
            rowLength = 0;
            for (int k = 0; k < sequence.size; k++) {
                int trouble = execute(sequence, k);
                if (trouble != NO_TROUBLE) {
                    endWithTrouble(sequence, k, trouble);
                    return;
                }
            }
            keepResult(sequence);
            detail = heap.findFault();
            outcome = detail == NO_FAULT ? FRESH : FAULTY;
        }

        private void endWithTrouble(Sequence sequence, int k, int trouble) {
            if (trouble != NULL_TROUBLE) {
                outcome = TROUBLED;
                detail = trouble;
                return;
            }
            boolean calledWithNull = isNull(sequence, k, 0) || isNull(sequence, k, 1);
            outcome = calledWithNull ? NOT_ALLOWED : FAULTY;
            detail = FAULT_NULL;
        }

        private boolean isNull(Sequence sequence, int k, int argument) {
            int type = catalog.argumentType(sequence.operationOf(k), argument);
            return type != NO_TYPE && type != NUMBER && argumentValue(sequence, k, argument) == NIL;
        }

        private int argumentValue(Sequence sequence, int k, int argument) {
            int content = sequence.content(k, argument);
            switch (sequence.form(k, argument)) {
                case FORM_VARIABLE:
                    return results[content];
                case FORM_LITERAL:
                    return content;
                default:
                    return NIL;
            }
        }

        private int execute(Sequence sequence, int k) {
            if (isNull(sequence, k, 0)) {
                return NULL_TROUBLE;
            }
            int operation = sequence.operationOf(k);
            int x = argumentValue(sequence, k, 0);
            int y = argumentValue(sequence, k, 1);
            switch (catalog.kinds[operation]) {
                case MAKE:
                    return make(k, catalog.resultTypes[operation], x);
                case WRAP:
                    return give(k, heap.make(catalog.resultTypes[operation], heap.values[x], x));
                case GET_VALUE:
                    return give(k, heap.values[x]);
                case ADD:
                    return add(k, x, y);
                case LINK:
                    return link(k, x, y);
                case GET_NEXT:
                    return getNext(k, x, catalog.resultTypes[operation]);
                case DIVIDE:
                    return y == 0 ? ZERO_TROUBLE : give(k, heap.values[x] / y);
                case NEXT_VALUE:
                    return getNextValue(k, x);
                case COUNT:
                    return give(k, heap.chainLength(x));
                default:
                    return give(k, y != NIL && heap.equal(x, y) ? 1 : 0);
            }
        }

        private int give(int k, int result) {
            results[k] = result;
            return NO_TROUBLE;
        }

        private int make(int k, int ofClass, int value) {
            if (!canBeValue(value)) {
                return RANGE_TROUBLE;
            }
            return give(k, heap.make(ofClass, value, NIL));
        }

        private int add(int k, int x, int n) {
            long sum = (long) heap.values[x] + n;
            if (!canBeValue(sum)) {
                return RANGE_TROUBLE;
            }
            heap.values[x] = (int) sum;
            return give(k, x);
        }

        private int link(int k, int x, int y) {
            if (heap.reaches(y, x)) {
                return LOOP_TROUBLE;
            }
            heap.nexts[x] = y;
            return give(k, x);
        }

        private int getNext(int k, int x, int wanted) {
            int next = heap.nexts[x];
            if (next != NIL && !catalog.is(heap.classes[next], wanted)) {
                return CAST_TROUBLE;
            }
            return give(k, next);
        }

        private int getNextValue(int k, int x) {
            int next = heap.nexts[x];
            return next == NIL ? NULL_TROUBLE : give(k, heap.values[next]);
        }

        private boolean canBeValue(long n) {
            return n >= -MAX_VALUE && n <= MAX_VALUE;
        }

        private void keepResult(Sequence sequence) {
            int last = sequence.size - 1;
            if (last < 0) {
                return;
            }
            if (catalog.resultTypes[sequence.operationOf(last)] == NUMBER) {
                gave = GAVE_NUMBER;
                number = results[last];
                return;
            }
            gave = results[last] == NIL ? GAVE_NULL : GAVE_OBJECT;
            keepRow(results[last]);
        }

        private void keepRow(int from) {
            int at = from;
            for (int i = 0; i < MAX_STATEMENTS && at != NIL; i++) {
                row[rowLength] = heap.classes[at];
                row[rowLength + 1] = heap.values[at];
                rowLength += 2;
                at = heap.nexts[at];
            }
        }
    }

    /** A sequence in the book with what came of it when it was entered. */
    private static final class Entry {
        final Sequence sequence = new Sequence();
        final int outcome;
        final int detail;
        final int type;
        final int gave;
        final int number;
        final int[] row;

        Entry(Sequence source, int type, int outcome, Runner runner) {
            sequence.copy(source);
            this.type = type;
            this.outcome = outcome;
            detail = runner.detail;
            gave = runner.gave;
            number = runner.number;
            row = Arrays.copyOf(runner.row, runner.rowLength);
        }

        boolean hasShapeOf(Runner runner) {
            if (gave != runner.gave || number != runner.number || row.length != runner.rowLength) {
                return false;
            }
            for (int i = 0; i < row.length; i++) {
                if (row[i] != runner.row[i]) {
                    return false;
                }
            }
            return true;
        }
    }

    /** The entries, and what is asked of all of them together. */
    private static final class Book {
        final Catalog catalog;
        int size;
        final Entry[] rows = new Entry[MAX_ENTRIES];
        final int[] listed = new int[MAX_ENTRIES];

        Book(Catalog catalog) {
            this.catalog = catalog;
        }

        boolean isFull() {
            return size >= MAX_ENTRIES;
        }

        Entry get(int e) {
            return e >= 0 && e < size ? rows[e] : null;
        }

        /** Its caller sees to it that the book is not full. */
        int add(Sequence sequence, Runner runner) {
            int type = catalog.resultTypes[sequence.operationOf(sequence.size - 1)];
            int outcome = runner.outcome == FRESH && knowsShape(runner) ? STALE : runner.outcome;
            rows[size] = new Entry(sequence, type, outcome, runner);
            size++;
            return size - 1;
        }

        private boolean knowsShape(Runner runner) {
            for (int e = 0; e < size; e++) {
                if (rows[e].outcome == FRESH && rows[e].hasShapeOf(runner)) {
                    return true;
                }
            }
            return false;
        }

        boolean holds(Sequence sequence) {
            for (int e = 0; e < size; e++) {
                if (rows[e].sequence.same(sequence)) {
                    return true;
                }
            }
            return false;
        }

        /** Lists the fresh entries that may stand where the type is wanted, and counts them. */
        int listFresh(int wanted) {
            int count = 0;
            for (int e = 0; e < size; e++) {
                if (rows[e].outcome == FRESH && catalog.is(rows[e].type, wanted)) {
                    listed[count] = e;
                    count++;
                }
            }
            return count;
        }
    }

    /** Takes the steps: chooses at random, runs, and enters what comes of it. */
    private static final class Grower {
        private static final int CHOSEN = 0;

        final Catalog catalog;
        final Book book;
        final Runner runner;
        final Sequence sequence = new Sequence();
        final int[] literals = new int[MAX_LITERALS];
        int literalCount;
        int seed;
        // The arguments chosen so far: their statement comes only behind all that they take.
        final int[] forms = new int[MAX_ARGUMENTS];
        final int[] contents = new int[MAX_ARGUMENTS];

        Grower(Catalog catalog, Book book, Runner runner, int seed) {
            this.catalog = catalog;
            this.book = book;
            this.runner = runner;
            this.seed = seed;
            literals[0] = 0;
            literals[1] = 1;
            literals[2] = -1;
            literalCount = 3;
        }

        int addLiteral(int v) {
            if (literalCount >= MAX_LITERALS) {
                return REFUSED;
            }
            for (int i = 0; i < literalCount; i++) {
                if (literals[i] == v) {
                    return REFUSED;
                }
            }
            literals[literalCount] = v;
            literalCount++;
            return literalCount - 1;
        }

        private int random(int n) {
            seed = 1103515245 * seed + 12345;
            return n < 1 ? 0 : (seed >>> 16) % n;
        }

        int grow() {
            if (book.isFull()) {
                return FULL;
            }
            if (catalog.operations == 0) {
                return NONE;
            }
            int operation = random(catalog.operations);
            sequence.clear();
            for (int a = 0; a < MAX_ARGUMENTS; a++) {
                int ended = chooseArgument(a, catalog.argumentType(operation, a));
                if (ended != CHOSEN) {
                    return ended;
                }
            }
            pushChosen(operation);
            if (book.holds(sequence)) {
                return AGAIN;
            }
            runner.run(sequence);
            return runner.outcome == NOT_ALLOWED ? INVALID : book.add(sequence, runner);
        }

        private int chooseArgument(int a, int type) {
            switch (type) {
                case NO_TYPE:
                    return choose(a, FORM_NONE, 0);
                case NUMBER:
                    return chooseNumber(a);
                default:
                    return chooseObject(a, type);
            }
        }

        private int choose(int a, int form, int content) {
            forms[a] = form;
            contents[a] = content;
            return CHOSEN;
        }

        private int chooseNumber(int a) {
            if (random(3) == 0 && book.listFresh(NUMBER) > 0) {
                return take(a, NUMBER);
            }
            return choose(a, FORM_LITERAL, literals[random(literalCount)]);
        }

        private int chooseObject(int a, int type) {
            if (random(6) == 0) {
                return choose(a, FORM_NULL, 0);
            }
            if (random(3) == 0 && a > 0 && firstFits(type)) {
                return choose(a, FORM_VARIABLE, contents[0]);
            }
            return take(a, type);
        }

        private boolean firstFits(int type) {
            return forms[0] == FORM_VARIABLE
                && catalog.is(catalog.resultTypes[sequence.operationOf(contents[0])], type);
        }

        private int take(int a, int type) {
            int count = book.listFresh(type);
            if (count == 0) {
                return LACK;
            }
            Entry taken = book.get(book.listed[random(count)]);
            if (taken == null) {
                return LACK;
            }
            if (sequence.size + taken.sequence.size > MAX_TAKEN) {
                return LONG;
            }
            sequence.append(taken.sequence);
            return choose(a, FORM_VARIABLE, sequence.size - 1);
        }

        private void pushChosen(int operation) {
            int k = sequence.push(operation);
            for (int a = 0; a < MAX_ARGUMENTS; a++) {
                sequence.setArgument(k, a, forms[a], contents[a]);
            }
        }
    }

    /** Makes the sequence of an entry shorter while the same comes of it. */
    private static final class Shortener {
        final Catalog catalog;
        final Runner runner;
        final Sequence trial = new Sequence();

        Shortener(Catalog catalog, Runner runner) {
            this.catalog = catalog;
            this.runner = runner;
        }

        void lowerVariables(Entry entry) {
            Sequence sequence = entry.sequence;
            for (int k = 0; k < sequence.size; k++) {
                for (int a = 0; a < MAX_ARGUMENTS; a++) {
                    if (sequence.isVariable(k, a) && lowerInTrial(sequence, k, a)) {
                        keepIfSame(entry);
                    }
                }
            }
        }

        /** Sets up the trial with something lesser for a variable; false if there is none. */
        private boolean lowerInTrial(Sequence sequence, int k, int a) {
            int type = catalog.argumentType(sequence.operationOf(k), a);
            trial.copy(sequence);
            if (type == NUMBER) {
                trial.setArgument(k, a, FORM_LITERAL, 0);
                return true;
            }
            int old = sequence.content(k, a);
            for (int v = 0; v < old; v++) {
                if (catalog.is(catalog.resultTypes[sequence.operationOf(v)], type)) {
                    trial.setArgument(k, a, FORM_VARIABLE, v);
                    return true;
                }
            }
            return false;
        }

        void dropStatements(Entry entry) {
            for (int k = entry.sequence.size - 2; k >= 0; k--) {
                if (!entry.sequence.usesLater(k)) {
                    trial.copy(entry.sequence);
                    trial.remove(k);
                    keepIfSame(entry);
                }
            }
        }

        void zeroLiterals(Entry entry) {
            Sequence sequence = entry.sequence;
            for (int k = 0; k < sequence.size; k++) {
                for (int a = 0; a < MAX_ARGUMENTS; a++) {
                    if (sequence.form(k, a) == FORM_LITERAL && sequence.content(k, a) != 0) {
                        trial.copy(sequence);
                        trial.setArgument(k, a, FORM_LITERAL, 0);
                        keepIfSame(entry);
                    }
                }
            }
        }

        private void keepIfSame(Entry entry) {
            runner.run(trial);
            if (runner.outcome == entry.outcome && runner.detail == entry.detail) {
                entry.sequence.copy(trial);
            }
        }
    }

    /** Writes the text of an entry into one row of letters that is used again and again. */
    private static final class Writer {
        final char[] letters = new char[MAX_TEXT];
        int length;

        void write(Entry entry) {
            length = 0;
            for (int k = 0; k < entry.sequence.size; k++) {
                writeCall(entry.sequence, k);
            }
            writeEnd(entry);
        }

        private void put(char letter) {
            if (length < letters.length) {
                letters[length] = letter;
                length++;
            }
        }

        private void writeCall(Sequence sequence, int k) {
            put((char) ('a' + sequence.operationOf(k)));
            put('(');
            for (int a = 0; a < MAX_ARGUMENTS; a++) {
                if (a > 0 && sequence.form(k, a) != FORM_NONE) {
                    put(',');
                }
                writeArgument(sequence.form(k, a), sequence.content(k, a));
            }
            put(')');
        }

        private void writeArgument(int form, int content) {
            switch (form) {
                case FORM_VARIABLE:
                    put('v');
                    writeNumber(content);
                    break;
                case FORM_LITERAL:
                    writeNumber(content);
                    break;
                case FORM_NULL:
                    put('n');
                    break;
                default:
                    break;
            }
        }

        private void writeEnd(Entry entry) {
            switch (entry.outcome) {
                case TROUBLED:
                    put('!');
                    writeNumber(entry.detail);
                    break;
                case FAULTY:
                    put('?');
                    writeNumber(entry.detail);
                    break;
                default:
                    put('=');
                    writeResult(entry);
                    break;
            }
        }

        private void writeResult(Entry entry) {
            if (entry.gave == GAVE_NUMBER) {
                writeNumber(entry.number);
            } else {
                put(entry.gave == GAVE_NULL ? 'n' : 'o');
            }
        }

        private void writeNumber(int n) {
            // As a long, since the least int has no positive one.
            long rest = n;
            if (rest < 0) {
                put('-');
                rest = -rest;
            }
            boolean begun = false;
            for (int i = 0; i < TENS.length; i++) {
                int digit = (int) (rest / TENS[i] % 10);
                begun = begun || digit != 0 || TENS[i] == 1;
                if (begun) {
                    put((char) ('0' + digit));
                }
            }
        }
    }

    /** Holds the draft and reads it as the text of a sequence and its end. */
    private static final class Reader {
        private static final int MAX_DIGITS = 11;

        final Catalog catalog;
        final char[] letters = new char[MAX_TEXT];
        int length;
        final Sequence sequence = new Sequence();
        int at;
        int numberRead;
        int outcome;
        int detail;
        int gave;
        int number;

        Reader(Catalog catalog) {
            this.catalog = catalog;
        }

        boolean addToDraft(long s) {
            if (s == 0) {
                length = 0;
                return true;
            }
            int count = countBytes(s);
            if (count == 0 || length + count > MAX_TEXT) {
                return false;
            }
            for (int i = 0; i < count; i++) {
                if (byteOf(s, i) < 32 || byteOf(s, i) > 126) {
                    return false;
                }
            }
            for (int i = 0; i < count; i++) {
                letters[length + i] = (char) byteOf(s, i);
            }
            length += count;
            return true;
        }

        private int countBytes(long s) {
            int count = 0;
            while (count < 8 && byteOf(s, count) != 0) {
                count++;
            }
            return count;
        }

        private int byteOf(long s, int i) {
            return (int) (s >>> 8 * i & 255);
        }

        boolean read() {
            at = 0;
            sequence.clear();
            for (int k = 0; k < MAX_STATEMENTS && !isAtEnd(); k++) {
                if (!readCall()) {
                    return false;
                }
            }
            return sequence.size > 0 && readEnd() && at == length;
        }

        boolean foretold(Runner runner) {
            if (outcome != runner.outcome || detail != runner.detail) {
                return false;
            }
            return outcome != FRESH || gave == runner.gave && number == runner.number;
        }

        private char peek() {
            return at < length ? letters[at] : 0;
        }

        private boolean accept(char letter) {
            if (peek() != letter) {
                return false;
            }
            at++;
            return true;
        }

        private boolean isAtEnd() {
            char letter = peek();
            return letter == '=' || letter == '!' || letter == '?';
        }

        private boolean isAtDigit() {
            return peek() >= '0' && peek() <= '9';
        }

        private boolean readCall() {
            int operation = peek() - 'a';
            if (operation < 0 || operation >= catalog.operations) {
                return false;
            }
            at++;
            int k = sequence.push(operation);
            return accept('(') && readArgument(k, 0)
                && (catalog.argumentType(operation, 1) == NO_TYPE || accept(',') && readArgument(k, 1))
                && accept(')');
        }

        private boolean readArgument(int k, int a) {
            int type = catalog.argumentType(sequence.operationOf(k), a);
            if (accept('v')) {
                return readVariable(k, a, type);
            }
            if (type != NUMBER) {
                sequence.setArgument(k, a, FORM_NULL, 0);
                return accept('n');
            }
            boolean good = readNumber();
            sequence.setArgument(k, a, FORM_LITERAL, numberRead);
            return good;
        }

        private boolean readVariable(int k, int a, int type) {
            if (!isAtDigit() || !readNumber() || numberRead >= k) {
                return false;
            }
            sequence.setArgument(k, a, FORM_VARIABLE, numberRead);
            return catalog.is(catalog.resultTypes[sequence.operationOf(numberRead)], type);
        }

        private boolean readNumber() {
            boolean negative = accept('-');
            boolean zeroFirst = peek() == '0';
            long n = 0;
            int digits = 0;
            // One digit more than any int has is enough to see that a number is none.
            while (digits < MAX_DIGITS && isAtDigit()) {
                n = 10 * n + (peek() - '0');
                at++;
                digits++;
            }
            n = negative ? -n : n;
            numberRead = (int) n;
            return digits > 0 && n == numberRead && !(zeroFirst && (negative || digits > 1));
        }

        private boolean readEnd() {
            detail = 0;
            gave = GAVE_NOTHING;
            number = 0;
            if (accept('!')) {
                outcome = TROUBLED;
                return readDetail(NULL_TROUBLE);
            }
            if (accept('?')) {
                outcome = FAULTY;
                return readDetail(FAULT_NULL);
            }
            outcome = FRESH;
            return accept('=') && readResult();
        }

        private boolean readDetail(int most) {
            detail = peek() - '0';
            at++;
            return detail >= 1 && detail <= most;
        }

        private boolean readResult() {
            if (accept('n')) {
                gave = GAVE_NULL;
                return true;
            }
            if (accept('o')) {
                gave = GAVE_OBJECT;
                return true;
            }
            gave = GAVE_NUMBER;
            boolean good = readNumber();
            number = numberRead;
            return good;
        }
    }
}
