/**
 * A catalogue of tables: what each was made from, column by column; how old each is; promises
 * kept or broken; what a change would touch or break; who owns what, and what nobody uses.
 *
 * <p>A table is only ever made from tables with lower numbers, so one walk up or down the numbers
 * settles what would otherwise need a search; many loops below lean on that.
 */
public final class TableCatalog {
    public static final int NONE = -1;

    private static final int MAX_BYTES = 400;
    private static final int BYTES_FED = 20;
    private static final int MAX_TABLES = 16;
    private static final int MAX_COLUMNS = 6;
    private static final int MAX_BEHIND = 3;
    private static final int MAX_MORE_TERMS = 5;
    private static final int MAX_OPEN = 3;
    private static final int MAX_LETTERS = 8;
    private static final int MAX_DIGITS = 4;
    private static final int MAX_ASKS = 40;
    private static final int LAST_DAY = 30000;
    private static final int LAST_LAG = 1000;
    private static final int LAST_USER = 9;

    // A column's number is STRIDE times its table and its place; the place WHERE is the where's.
    private static final int STRIDE = 8;
    private static final int WHERE = 6;
    private static final int COLUMN_NUMBERS = MAX_TABLES * STRIDE;

    private static final int SOURCE = 0;
    private static final int VIEW = 1;
    private static final int COPY = 2;
    private static final int FROZEN = 3;

    private static final int NUMBER = 'n';
    private static final int TEXT = 't';
    private static final int DAY = 'd';
    private static final int UNKNOWN = 0;

    private static final int FAULT_GRAMMAR = 1;
    private static final int FAULT_MISSING = 2;
    private static final int FAULT_TYPE = 3;
    private static final int FAULT_REPEATED = 4;
    private static final int FAULT_FULL = 5;

    private static final int REFUSED = -2;
    private static final int ONE_STEP = 0;
    private static final int SOURCES_ALONE = 2;

    // Kinds of tokens. A sign is its own byte, so these begin behind the last byte.
    private static final int NAME = 256;
    private static final int DIGITS = 257;
    private static final int QUOTED = 258;
    private static final int BROKEN_QUOTE = 259;
    private static final int TAPE_END = 260;
    private static final int WORD_TABLE = 261;
    private static final int WORD_VIEW = 262;
    private static final int WORD_COPY = 263;
    private static final int WORD_FROM = 264;
    private static final int WORD_WHERE = 265;
    private static final int WORD_LEN = 266;
    private static final int WORD_STR = 267;

    // Items of a program are tokens' kinds, or one of these with a number added.
    private static final int COLUMN_ITEM = 1000;
    private static final int REFERENCE_ITEM = 2000;

    private final Row tape;
    private final Parser parser;
    private final Checker checker;
    private final Typing typing;
    private final Table[] tables;
    private final int[] types;
    private final int[] trialTypes;
    private final Ask[] asks;
    private final ColumnSet marks;
    private final Row foundRow;
    private final Row troubles;
    private int tableCount;
    private int askCount;
    private int presentDay;
    private int latestFault;
    private int latestPlace;

    public TableCatalog() {
        tape = new Row(MAX_BYTES);
        parser = new Parser();
        checker = new Checker();
        typing = new Typing();
        tables = new Table[MAX_TABLES];
        types = new int[COLUMN_NUMBERS];
        trialTypes = new int[COLUMN_NUMBERS];
        asks = new Ask[MAX_ASKS];
        marks = new ColumnSet();
        foundRow = new Row(COLUMN_NUMBERS);
        troubles = new Row(COLUMN_NUMBERS);
        latestPlace = NONE;
    }

    // ---- statements

    public int feed(int a, int b, int c, int d, int e) {
        if (tape.size() + BYTES_FED > MAX_BYTES) {
            return NONE;
        }
        putBytes(a);
        putBytes(b);
        putBytes(c);
        putBytes(d);
        putBytes(e);
        return tape.size();
    }

    public boolean end(int n) {
        if (n < 0 || n > tape.size()) {
            return false;
        }
        tape.cutTo(n);
        return true;
    }

    public int act() {
        Draft draft = parser.draft;
        draft.tokens.readAll(tape);
        tape.cutTo(0);
        if (!parser.readStatement()) {
            return refuse(FAULT_GRAMMAR, parser.stopPlace());
        }
        checker.check(draft, tables, types);
        if (checker.faultKind != 0) {
            return refuse(checker.faultKind, checker.faultPlace);
        }
        if (tableCount >= MAX_TABLES) {
            return refuse(FAULT_FULL, 0);
        }
        latestFault = 0;
        latestPlace = NONE;
        return addTable(draft);
    }

    public int fault(int what) {
        if (what == 0) {
            return latestFault;
        }
        return what == 1 ? latestPlace : NONE;
    }

    public int named() {
        Tokens tokens = parser.draft.tokens;
        tokens.readAll(tape);
        tape.cutTo(0);
        if (!tokens.isOneName()) {
            return NONE;
        }
        int t = indexOfName(tables, tokens.nameOf(0));
        return t == NONE ? REFUSED : t;
    }

    // ---- tables and columns

    public int table(int t, int what) {
        Table table = tableAt(t);
        if (table == null) {
            return NONE;
        }
        switch (what) {
            case 0:
                return table.kind;
            case 1:
                return table.columnCount();
            case 2:
                return table.behind.size();
            case 3:
            case 4:
            case 5:
                return table.behind.get(what - 3);
            case 6:
                return table.oldest;
            case 7:
                return table.newest;
            case 8:
                return ownerOf(t);
            case 9:
                return table.lag;
            default:
                return NONE;
        }
    }

    public int type(int t, int c) {
        return hasColumn(t, c) ? types[t * STRIDE + c] : NONE;
    }

    public int from(int t, int c, int how) {
        Table table = tableAt(t);
        if (table == null || !hasColumn(t, c) || how < ONE_STEP || how > SOURCES_ALONE) {
            return NONE;
        }
        marks.clear();
        table.program.markUsed(c, marks);
        if (how != ONE_STEP) {
            markEarlierSteps(t);
        }
        return findMarked(how == SOURCES_ALONE);
    }

    public int touch(int t, int c) {
        if (!hasColumn(t, c)) {
            return NONE;
        }
        markTouched(t, c);
        marks.remove(t * STRIDE + c);
        return findMarked(false);
    }

    public int asked(int t, int c) {
        if (!hasColumn(t, c)) {
            return NONE;
        }
        markTouched(t, c);
        foundRow.cutTo(0);
        for (int i = 0; i < MAX_ASKS; i++) {
            Ask ask = asks[i];
            if (ask != null && (marks.bitsOf(ask.of) & ask.bits) != 0) {
                foundRow.add(i);
            }
        }
        return foundRow.size();
    }

    public int found(int k) {
        return foundRow.get(k);
    }

    // ---- changes

    public int retype(int t, int c, int type) {
        Table table = tableAt(t);
        if (table == null || table.kind != SOURCE || !hasColumn(t, c) || !isType(type)) {
            return NONE;
        }
        int number = t * STRIDE + c;
        System.arraycopy(types, 0, trialTypes, 0, COLUMN_NUMBERS);
        trialTypes[number] = type;
        troubles.cutTo(0);
        for (int u = t + 1; u < MAX_TABLES; u++) {
            tryTypes(u);
        }
        if (troubles.size() > 0) {
            foundRow.cutTo(0);
            foundRow.addAll(troubles);
            return REFUSED;
        }
        int others = countRetypedBeside(number);
        System.arraycopy(trialTypes, 0, types, 0, COLUMN_NUMBERS);
        return others;
    }

    public int drop(int t) {
        if (tableAt(t) == null) {
            return NONE;
        }
        for (int u = 0; u < MAX_TABLES; u++) {
            Table table = tables[u];
            if (table != null && table.behind.has(t)) {
                return REFUSED;
            }
        }
        tables[t] = null;
        return dropAsksOf(t);
    }

    public boolean freeze(int t) {
        Table table = tableAt(t);
        if (table == null || table.kind != COPY) {
            return false;
        }
        table.kind = FROZEN;
        table.behind.cutTo(0);
        table.program.clear();
        return true;
    }

    // ---- ages, promises

    public boolean today(int day) {
        if (day < presentDay || day > LAST_DAY) {
            return false;
        }
        presentDay = day;
        return true;
    }

    public boolean fed(int t, int oldest, int newest) {
        Table table = tableAt(t);
        if (table == null || table.kind != SOURCE) {
            return false;
        }
        if (oldest < 0 || oldest > newest || newest > presentDay) {
            return false;
        }
        table.oldest = oldest;
        table.newest = newest;
        settleViews();
        return true;
    }

    public boolean run(int t) {
        Table table = tableAt(t);
        if (table == null || table.kind != COPY || !takeAgeFromBehind(table)) {
            return false;
        }
        settleViews();
        return true;
    }

    public boolean promise(int t, int lag) {
        Table table = tableAt(t);
        if (table == null || lag < NONE || lag > LAST_LAG) {
            return false;
        }
        table.lag = lag;
        return true;
    }

    public int broken() {
        foundRow.cutTo(0);
        for (int t = 0; t < MAX_TABLES; t++) {
            if (isBroken(tables[t])) {
                foundRow.add(t);
            }
        }
        return foundRow.size();
    }

    public int late(int t) {
        Table table = tableAt(t);
        if (table == null || !isBroken(table)) {
            return NONE;
        }
        int limit = presentDay - table.lag;
        int lateOne = t;
        int next = t;
        for (int step = 0; step < MAX_TABLES && next != NONE; step++) {
            lateOne = next;
            next = firstLateBehind(lateOne, limit);
        }
        return lateOne;
    }

    // ---- users

    public boolean own(int t, int user) {
        Table table = tableAt(t);
        if (table == null || user < NONE || user > LAST_USER) {
            return false;
        }
        table.owner = user;
        return true;
    }

    public int ask(int user, int t, int bits) {
        Table table = tableAt(t);
        if (table == null || user < 0 || user > LAST_USER || askCount >= MAX_ASKS) {
            return NONE;
        }
        if (bits <= 0 || bits >= 1 << table.columnCount()) {
            return NONE;
        }
        asks[askCount] = new Ask(t, bits, presentDay);
        askCount++;
        return askCount - 1;
    }

    public int unused(int since) {
        int used = usedTables(since);
        foundRow.cutTo(0);
        for (int t = 0; t < MAX_TABLES; t++) {
            if (tables[t] != null && (used >> t & 1) == 0) {
                foundRow.add(t);
            }
        }
        return foundRow.size();
    }

    public int alike(int a, int b) {
        Table one = tableAt(a);
        Table other = tableAt(b);
        if (a == b || one == null || other == null || !one.hasSelect() || !other.hasSelect()) {
            return NONE;
        }
        return one.wording.isSame(other.wording) ? 1 : 0;
    }

    // ---- helpers

    private void putBytes(int number) {
        for (int shift = 24; shift >= 0; shift -= 8) {
            tape.add(number >>> shift & 255);
        }
    }

    private int refuse(int fault, int place) {
        latestFault = fault;
        latestPlace = place;
        return NONE;
    }

    private int addTable(Draft draft) {
        int t = tableCount;
        if (t >= MAX_TABLES) {
            return NONE;
        }
        Table table = new Table(draft);
        for (int c = 0; c < table.columnCount(); c++) {
            types[t * STRIDE + c] = draft.columnTypes.get(c);
        }
        tables[t] = table;
        tableCount++;
        settleViews();
        return t;
    }

    private Table tableAt(int t) {
        return t >= 0 && t < MAX_TABLES ? tables[t] : null;
    }

    private boolean hasColumn(int t, int c) {
        Table table = tableAt(t);
        return table != null && c >= 0 && c < table.columnCount();
    }

    private static int indexOfName(Table[] tables, long name) {
        for (int t = 0; t < tables.length; t++) {
            Table table = tables[t];
            if (table != null && table.name == name) {
                return t;
            }
        }
        return NONE;
    }

    private static boolean isType(int letter) {
        return letter == NUMBER || letter == TEXT || letter == DAY;
    }

    /** Marks what the marked columns of tables below t come from; going down, once is enough. */
    private void markEarlierSteps(int t) {
        for (int u = t - 1; u >= 0; u--) {
            Table table = tableAt(u);
            if (table == null) {
                continue;
            }
            for (int c = 0; c < table.columnCount(); c++) {
                if (marks.has(u * STRIDE + c)) {
                    table.program.markUsed(c, marks);
                }
            }
        }
    }

    /** Marks a column and all that it touches; going up, once is enough. */
    private void markTouched(int t, int c) {
        marks.clear();
        marks.add(t * STRIDE + c);
        for (int u = t + 1; u < MAX_TABLES; u++) {
            Table table = tableAt(u);
            if (table == null) {
                continue;
            }
            boolean rows = table.program.usesMarked(WHERE, marks);
            for (int d = 0; d < table.columnCount(); d++) {
                if (rows || table.program.usesMarked(d, marks)) {
                    marks.add(u * STRIDE + d);
                }
            }
        }
    }

    private int findMarked(boolean sourcesAlone) {
        foundRow.cutTo(0);
        for (int number = 0; number < COLUMN_NUMBERS; number++) {
            Table table = tableAt(number / STRIDE);
            if (table == null || sourcesAlone && table.kind != SOURCE) {
                continue;
            }
            if (marks.has(number)) {
                foundRow.add(number);
            }
        }
        return foundRow.size();
    }

    /** Works out the trial types of a table; a formula that can't be keeps the type it had. */
    private void tryTypes(int t) {
        Table table = tableAt(t);
        if (table == null || !table.hasSelect()) {
            return;
        }
        for (int c = 0; c < table.columnCount(); c++) {
            int type = typing.typeOfPart(table.program, c, trialTypes);
            if (typing.badPlace == NONE) {
                trialTypes[t * STRIDE + c] = type;
            } else {
                troubles.add(t * STRIDE + c);
            }
        }
        typing.typeOfPart(table.program, WHERE, trialTypes);
        if (typing.badPlace != NONE) {
            troubles.add(t * STRIDE + WHERE);
        }
    }

    private int countRetypedBeside(int number) {
        int count = 0;
        for (int other = 0; other < COLUMN_NUMBERS; other++) {
            if (other != number && trialTypes[other] != types[other]) {
                count++;
            }
        }
        return count;
    }

    /** Numbers of asks stay their own, so the places of those that go are left empty. */
    private int dropAsksOf(int t) {
        int count = 0;
        for (int i = 0; i < MAX_ASKS; i++) {
            Ask ask = asks[i];
            if (ask != null && ask.of == t) {
                asks[i] = null;
                count++;
            }
        }
        return count;
    }

    /** Gives a table the age of its tables together; false, changing nothing, if one has none. */
    private boolean takeAgeFromBehind(Table table) {
        int oldest = LAST_DAY;
        int newest = NONE;
        for (int i = 0; i < table.behind.size(); i++) {
            Table behind = tableAt(table.behind.get(i));
            if (behind == null || behind.newest == NONE) {
                return false;
            }
            oldest = Math.min(oldest, behind.oldest);
            newest = Math.max(newest, behind.newest);
        }
        if (newest == NONE) {
            return false;
        }
        table.oldest = oldest;
        table.newest = newest;
        return true;
    }

    /** An age once told never goes, so a view that has one can only change it, not lose it. */
    private void settleViews() {
        for (int t = 0; t < MAX_TABLES; t++) {
            Table table = tables[t];
            if (table != null && table.kind == VIEW) {
                takeAgeFromBehind(table);
            }
        }
    }

    private boolean isBroken(Table table) {
        return table != null && table.lag != NONE && isBelow(table, presentDay - table.lag);
    }

    private static boolean isBelow(Table table, int limit) {
        return table.newest == NONE || table.newest < limit;
    }

    private int firstLateBehind(int t, int limit) {
        Table table = tableAt(t);
        if (table == null) {
            return NONE;
        }
        for (int i = 0; i < table.behind.size(); i++) {
            Table behind = tableAt(table.behind.get(i));
            if (behind != null && isBelow(behind, limit)) {
                return table.behind.get(i);
            }
        }
        return NONE;
    }

    private int ownerOf(int t) {
        Table table = tableAt(t);
        for (int step = 0; step < MAX_TABLES && table != null; step++) {
            if (table.owner != NONE) {
                return table.owner;
            }
            table = tableAt(table.behind.get(0));
        }
        return NONE;
    }

    /** The tables (a bit each) that were asked since a day, or stand behind one that was. */
    private int usedTables(int since) {
        int used = 0;
        for (int i = 0; i < MAX_ASKS; i++) {
            Ask ask = asks[i];
            if (ask != null && ask.day >= since) {
                used |= 1 << ask.of;
            }
        }
        for (int t = MAX_TABLES - 1; t >= 0; t--) {
            Table table = tables[t];
            if (table == null || (used >> t & 1) == 0) {
                continue;
            }
            for (int i = 0; i < table.behind.size(); i++) {
                used |= 1 << table.behind.get(i);
            }
        }
        return used;
    }

    /** A list of numbers that has its room from the start. */
    private static final class Row {
        private final int[] cells;
        private int size;

        Row(int room) {
            cells = new int[Math.max(room, 0)];
        }

        int size() {
            return size;
        }

        int get(int i) {
            return i >= 0 && i < size && i < cells.length ? cells[i] : NONE;
        }

        void set(int i, int value) {
            if (i >= 0 && i < size && i < cells.length) {
                cells[i] = value;
            }
        }

        void add(int value) {
            if (size >= 0 && size < cells.length) {
                cells[size] = value;
                size++;
            }
        }

        void addAll(Row other) {
            int count = Math.min(other.size, cells.length - size);
            if (count > 0) {
                System.arraycopy(other.cells, 0, cells, size, count);
                size += count;
            }
        }

        void cutTo(int n) {
            if (n >= 0 && n < size) {
                size = n;
            }
        }

        boolean has(int value) {
            for (int i = 0; i < size && i < cells.length; i++) {
                if (cells[i] == value) {
                    return true;
                }
            }
            return false;
        }

        boolean isSame(Row other) {
            if (size != other.size) {
                return false;
            }
            for (int i = 0; i < size; i++) {
                if (get(i) != other.get(i)) {
                    return false;
                }
            }
            return true;
        }

        Row copy() {
            Row copy = new Row(size);
            copy.addAll(this);
            return copy;
        }
    }

    /** Some columns, a bit each, by table. */
    private static final class ColumnSet {
        private final int[] bits = new int[MAX_TABLES];

        void clear() {
            for (int t = 0; t < bits.length; t++) {
                bits[t] = 0;
            }
        }

        int bitsOf(int t) {
            return t >= 0 && t < bits.length ? bits[t] : 0;
        }

        boolean has(int number) {
            return number >= 0 && (bitsOf(number / STRIDE) >> number % STRIDE & 1) != 0;
        }

        void add(int number) {
            if (number >= 0 && number < COLUMN_NUMBERS) {
                bits[number / STRIDE] |= 1 << number % STRIDE;
            }
        }

        void remove(int number) {
            if (number >= 0 && number < COLUMN_NUMBERS) {
                bits[number / STRIDE] &= ~(1 << number % STRIDE);
            }
        }
    }

    /** An ask that was made; by whom is never looked up, so it is not kept. */
    private static final class Ask {
        private final int of;
        private final int bits;
        private final int day;

        Ask(int of, int bits, int day) {
            this.of = of;
            this.bits = bits;
            this.day = day;
        }
    }

    private static final class Table {
        private final long name;
        private final long[] columnNames;
        private final Row behind;
        private final Program program;
        private final Row wording;
        private int kind;
        private int oldest;
        private int newest;
        private int owner;
        private int lag;

        Table(Draft draft) {
            name = draft.tokens.nameOf(draft.nameToken);
            kind = draft.kind;
            columnNames = draft.columnNames();
            behind = draft.behindTables.copy();
            program = draft.program.copy();
            wording = draft.wording();
            oldest = NONE;
            newest = NONE;
            owner = NONE;
            lag = NONE;
        }

        int columnCount() {
            return columnNames.length;
        }

        int columnOfName(long wanted) {
            for (int c = 0; c < columnNames.length; c++) {
                if (columnNames[c] == wanted) {
                    return c;
                }
            }
            return NONE;
        }

        boolean hasSelect() {
            return kind == VIEW || kind == COPY;
        }
    }

    /**
     * The formulas of a table as one row of items, each formula's operators behind what they work
     * on, so that a stack can tell its type. The part c is column c's formula, the part WHERE
     * both sides of the where and its sign.
     */
    private static final class Program {
        private final Row items;
        private final Row places;
        private final int[] starts = new int[WHERE + 1];
        private final int[] ends = new int[WHERE + 1];
        private int closed;

        Program(int room) {
            items = new Row(room);
            places = new Row(room);
        }

        void clear() {
            items.cutTo(0);
            places.cutTo(0);
            closed = 0;
            for (int part = 0; part <= WHERE; part++) {
                starts[part] = 0;
                ends[part] = 0;
            }
        }

        void add(int item, int place) {
            items.add(item);
            places.add(place);
        }

        /** All items since the part that was closed last are this part's. */
        void closePart(int part) {
            if (part >= 0 && part <= WHERE) {
                starts[part] = closed;
                ends[part] = items.size();
            }
            closed = items.size();
        }

        int startOf(int part) {
            return part >= 0 && part <= WHERE ? starts[part] : 0;
        }

        int stopOf(int part) {
            return part >= 0 && part <= WHERE ? ends[part] : 0;
        }

        void markUsed(int part, ColumnSet marks) {
            int stop = stopOf(part);
            for (int i = startOf(part); i < stop; i++) {
                marks.add(items.get(i) - COLUMN_ITEM);
            }
        }

        boolean usesMarked(int part, ColumnSet marks) {
            int stop = stopOf(part);
            for (int i = startOf(part); i < stop; i++) {
                int item = items.get(i);
                if (item >= COLUMN_ITEM && marks.has(item - COLUMN_ITEM)) {
                    return true;
                }
            }
            return false;
        }

        Program copy() {
            Program copy = new Program(items.size());
            copy.items.addAll(items);
            copy.places.addAll(places);
            System.arraycopy(starts, 0, copy.starts, 0, WHERE + 1);
            System.arraycopy(ends, 0, copy.ends, 0, WHERE + 1);
            copy.closed = closed;
            return copy;
        }
    }

    /** The tape cut into words, numbers, texts and signs. */
    private static final class Tokens {
        private final Row kinds = new Row(MAX_BYTES + 1);
        private final Row starts = new Row(MAX_BYTES + 1);
        private final Row lengths = new Row(MAX_BYTES + 1);
        private final long[] names = new long[MAX_BYTES + 1];
        private final Row bytes = new Row(MAX_BYTES);
        private final Row wording = new Row(MAX_BYTES);

        void readAll(Row tape) {
            kinds.cutTo(0);
            starts.cutTo(0);
            lengths.cutTo(0);
            bytes.cutTo(0);
            bytes.addAll(tape);
            int place = 0;
            while (place < bytes.size()) {
                int length = isBlank(bytes.get(place)) ? 1 : readOne(place);
                place += Math.max(length, 1);
            }
            put(TAPE_END, bytes.size(), 0);
        }

        boolean isOneName() {
            return kinds.get(0) == NAME && lengths.get(0) <= MAX_LETTERS && kinds.get(1) == TAPE_END;
        }

        /** A name as one number, five bits a letter: names are alike if these are. */
        long nameOf(int token) {
            return token >= 0 && token < names.length ? names[token] : 0;
        }

        private int readOne(int place) {
            int first = bytes.get(place);
            if (isLetter(first)) {
                return readWord(place);
            }
            if (isDigit(first)) {
                int stop = place + 1;
                while (stop < bytes.size() && isDigit(bytes.get(stop))) {
                    stop++;
                }
                return put(DIGITS, place, stop - place);
            }
            return first == '\'' ? readQuote(place) : put(first, place, 1);
        }

        private int readWord(int place) {
            long name = 0;
            int stop = place;
            while (stop < bytes.size() && isLetter(bytes.get(stop))) {
                if (stop - place < MAX_LETTERS) {
                    name = name * 32 + (bytes.get(stop) - 'a' + 1);
                }
                stop++;
            }
            int token = kinds.size();
            if (token < names.length) {
                names[token] = name;
            }
            return put(kindOfWord(place, stop - place), place, stop - place);
        }

        /** A broken text is as long as what is well in it: where it ends is where the fault is. */
        private int readQuote(int place) {
            int stop = place + 1;
            while (stop < bytes.size() && (isLetter(bytes.get(stop)) || bytes.get(stop) == ' ')) {
                stop++;
            }
            if (bytes.get(stop) == '\'') {
                return put(QUOTED, place, stop + 1 - place);
            }
            return put(BROKEN_QUOTE, place, stop - place);
        }

        private int put(int kind, int place, int length) {
            kinds.add(kind);
            starts.add(place);
            lengths.add(length);
            return length;
        }

        private int kindOfWord(int place, int length) {
            if (isWord("table", place, length)) {
                return WORD_TABLE;
            }
            if (isWord("view", place, length)) {
                return WORD_VIEW;
            }
            if (isWord("copy", place, length)) {
                return WORD_COPY;
            }
            if (isWord("from", place, length)) {
                return WORD_FROM;
            }
            if (isWord("where", place, length)) {
                return WORD_WHERE;
            }
            if (isWord("len", place, length)) {
                return WORD_LEN;
            }
            return isWord("str", place, length) ? WORD_STR : NAME;
        }

        private boolean isWord(String word, int place, int length) {
            if (word.length() != length) {
                return false;
            }
            for (int i = 0; i < word.length(); i++) {
                if (word.charAt(i) != bytes.get(place + i)) {
                    return false;
                }
            }
            return true;
        }

        /** The tokens from one on with no blanks but those that keep two words apart. */
        Row wordingFrom(int token) {
            wording.cutTo(0);
            for (int i = token; i < kinds.size(); i++) {
                int start = starts.get(i);
                if (i > token && isLetter(bytes.get(start)) && isLetter(wording.get(wording.size() - 1))) {
                    wording.add(' ');
                }
                for (int k = 0; k < lengths.get(i); k++) {
                    wording.add(bytes.get(start + k));
                }
            }
            return wording.copy();
        }

        private static boolean isBlank(int sign) {
            return sign == ' ' || sign == '\n';
        }

        private static boolean isLetter(int sign) {
            return sign >= 'a' && sign <= 'z';
        }

        private static boolean isDigit(int sign) {
            return sign >= '0' && sign <= '9';
        }
    }

    /** A statement as it was read; names are kept as the numbers of their tokens. */
    private static final class Draft {
        private final Tokens tokens = new Tokens();
        private final Row columns = new Row(MAX_COLUMNS);
        private final Row columnTypes = new Row(MAX_COLUMNS);
        private final Row behind = new Row(MAX_BEHIND);
        private final Row behindTables = new Row(MAX_BEHIND);
        private final Program program = new Program(MAX_BYTES);
        private int kind;
        private int nameToken;
        private int selectToken;

        void clear() {
            columns.cutTo(0);
            columnTypes.cutTo(0);
            behind.cutTo(0);
            behindTables.cutTo(0);
            program.clear();
            kind = SOURCE;
            nameToken = 0;
            selectToken = 0;
        }

        long[] columnNames() {
            long[] names = new long[Math.max(columns.size(), 0)];
            for (int c = 0; c < names.length; c++) {
                names[c] = tokens.nameOf(columns.get(c));
            }
            return names;
        }

        /** A source's is never looked at, so it is left empty. */
        Row wording() {
            return kind == SOURCE ? new Row(0) : tokens.wordingFrom(selectToken);
        }
    }

    /**
     * Reads a statement's tokens into a draft; it knows the grammar, not the tables. A method that
     * answers false has stopped at the token with which no statement goes on.
     */
    private static final class Parser {
        private final Draft draft = new Draft();
        private int at;
        private int beyond;

        boolean readStatement() {
            at = 0;
            beyond = 0;
            draft.clear();
            if (!readHead()) {
                return false;
            }
            boolean whole = draft.kind == SOURCE
                    ? readSource()
                    : take('=') && readResults() && readBehind() && readWhere();
            return whole && take(';') && draft.tokens.kinds.get(at) == TAPE_END;
        }

        int stopPlace() {
            return draft.tokens.starts.get(at) + beyond;
        }

        private boolean readHead() {
            int kind = draft.tokens.kinds.get(at);
            if (kind != WORD_TABLE && kind != WORD_VIEW && kind != WORD_COPY) {
                return false;
            }
            draft.kind = kind == WORD_TABLE ? SOURCE : kind == WORD_VIEW ? VIEW : COPY;
            at++;
            draft.nameToken = at;
            draft.selectToken = at + 1;
            return takeName();
        }

        private boolean readSource() {
            if (!take('(')) {
                return false;
            }
            for (int c = 0; c < MAX_COLUMNS; c++) {
                draft.columns.add(at);
                if (!takeName() || !takeType()) {
                    return false;
                }
                if (!take(',')) {
                    return take(')');
                }
            }
            return false;
        }

        private boolean readResults() {
            for (int c = 0; c < MAX_COLUMNS; c++) {
                draft.columns.add(at);
                if (!takeName() || !take(':') || !readFormula(0)) {
                    return false;
                }
                draft.program.closePart(c);
                if (!take(',')) {
                    return take(WORD_FROM);
                }
            }
            return false;
        }

        private boolean readBehind() {
            for (int i = 0; i < MAX_BEHIND; i++) {
                draft.behind.add(at);
                if (!takeName()) {
                    return false;
                }
                if (!take(',')) {
                    return true;
                }
            }
            return false;
        }

        private boolean readWhere() {
            if (!take(WORD_WHERE)) {
                return true;
            }
            if (!readFormula(0)) {
                return false;
            }
            int sign = draft.tokens.kinds.get(at);
            int place = draft.tokens.starts.get(at);
            if (!take('<') && !take('=')) {
                return false;
            }
            if (!readFormula(0)) {
                return false;
            }
            draft.program.add(sign, place);
            draft.program.closePart(WHERE);
            return true;
        }

        private boolean readFormula(int open) {
            if (!readTerm(open)) {
                return false;
            }
            for (int more = 0; more < MAX_MORE_TERMS; more++) {
                int sign = draft.tokens.kinds.get(at);
                int place = draft.tokens.starts.get(at);
                if (!isOperator(sign)) {
                    return true;
                }
                at++;
                if (!readTerm(open)) {
                    return false;
                }
                draft.program.add(sign, place);
            }
            return !isOperator(draft.tokens.kinds.get(at));
        }

        private boolean readTerm(int open) {
            int kind = draft.tokens.kinds.get(at);
            int place = draft.tokens.starts.get(at);
            if (kind == NAME) {
                draft.program.add(REFERENCE_ITEM + at, place);
                return takeName() && take('.') && takeName();
            }
            if (kind == DIGITS || kind == QUOTED || kind == BROKEN_QUOTE) {
                draft.program.add(kind, place);
                return takeConstant(kind);
            }
            if (kind != WORD_LEN && kind != WORD_STR) {
                return false;
            }
            at++;
            // one bracket too many is at fault itself, so the word ahead of it has been passed
            if (open >= MAX_OPEN || !take('(') || !readFormula(open + 1)) {
                return false;
            }
            draft.program.add(kind, place);
            return take(')');
        }

        private static boolean isOperator(int kind) {
            return kind == '+' || kind == '-' || kind == '&';
        }

        private boolean take(int kind) {
            if (draft.tokens.kinds.get(at) != kind) {
                return false;
            }
            at++;
            return true;
        }

        private boolean takeName() {
            if (draft.tokens.kinds.get(at) != NAME) {
                return false;
            }
            if (draft.tokens.lengths.get(at) > MAX_LETTERS) {
                beyond = MAX_LETTERS;
                return false;
            }
            at++;
            return true;
        }

        private boolean takeType() {
            if (draft.tokens.kinds.get(at) != NAME || draft.tokens.lengths.get(at) != 1) {
                return false;
            }
            int letter = (int) draft.tokens.nameOf(at) - 1 + 'a';
            if (!isType(letter)) {
                return false;
            }
            draft.columnTypes.add(letter);
            at++;
            return true;
        }

        private boolean takeConstant(int kind) {
            int length = draft.tokens.lengths.get(at);
            if (kind == BROKEN_QUOTE) {
                beyond = length;
                return false;
            }
            if (kind == DIGITS && length > MAX_DIGITS) {
                beyond = MAX_DIGITS;
                return false;
            }
            at++;
            return true;
        }
    }

    /** Looks for the faults of a draft that the grammar can't see; the first in the text counts. */
    private static final class Checker {
        private final Typing typing = new Typing();
        private int faultKind;
        private int faultPlace;

        void check(Draft draft, Table[] tables, int[] types) {
            faultKind = 0;
            faultPlace = NONE;
            Tokens tokens = draft.tokens;
            if (indexOfName(tables, tokens.nameOf(draft.nameToken)) != NONE) {
                note(FAULT_REPEATED, tokens.starts.get(draft.nameToken));
            }
            noteRepeats(draft.columns, tokens);
            noteRepeats(draft.behind, tokens);
            lookBehind(draft, tables);
            for (int i = 0; i < draft.program.items.size(); i++) {
                int item = draft.program.items.get(i);
                if (item >= REFERENCE_ITEM) {
                    draft.program.items.set(i, columnItem(item - REFERENCE_ITEM, draft, tables));
                }
            }
            if (draft.kind != SOURCE) {
                noteTypes(draft, types);
            }
        }

        private void note(int what, int where) {
            if (faultPlace == NONE || where < faultPlace) {
                faultKind = what;
                faultPlace = where;
            }
        }

        private void noteRepeats(Row nameTokens, Tokens tokens) {
            for (int i = 1; i < nameTokens.size(); i++) {
                int token = nameTokens.get(i);
                for (int k = 0; k < i; k++) {
                    if (tokens.nameOf(nameTokens.get(k)) == tokens.nameOf(token)) {
                        note(FAULT_REPEATED, tokens.starts.get(token));
                    }
                }
            }
        }

        private void lookBehind(Draft draft, Table[] tables) {
            for (int i = 0; i < draft.behind.size(); i++) {
                int token = draft.behind.get(i);
                int t = indexOfName(tables, draft.tokens.nameOf(token));
                draft.behindTables.add(t);
                if (t == NONE) {
                    note(FAULT_MISSING, draft.tokens.starts.get(token));
                }
            }
        }

        /** The item for NAME . NAME, whose column's token comes two behind its table's. */
        private int columnItem(int token, Draft draft, Table[] tables) {
            Tokens tokens = draft.tokens;
            int nth = NONE;
            for (int i = draft.behind.size() - 1; i >= 0; i--) {
                if (tokens.nameOf(draft.behind.get(i)) == tokens.nameOf(token)) {
                    nth = i;
                }
            }
            if (nth == NONE) {
                note(FAULT_MISSING, tokens.starts.get(token));
                return UNKNOWN;
            }
            int t = draft.behindTables.get(nth);
            Table table = t >= 0 && t < tables.length ? tables[t] : null;
            if (table == null) {
                return UNKNOWN;
            }
            int c = table.columnOfName(tokens.nameOf(token + 2));
            if (c == NONE) {
                note(FAULT_MISSING, tokens.starts.get(token + 2));
                return UNKNOWN;
            }
            return COLUMN_ITEM + t * STRIDE + c;
        }

        private void noteTypes(Draft draft, int[] types) {
            for (int part = 0; part <= WHERE; part++) {
                int type = typing.typeOfPart(draft.program, part, types);
                if (part < draft.columns.size()) {
                    draft.columnTypes.add(type);
                }
                if (typing.badPlace != NONE) {
                    note(FAULT_TYPE, typing.badPlace);
                }
            }
        }
    }

    /** Tells the type of a formula. What is unknown fits everywhere, and so does what can't be. */
    private static final class Typing {
        // A value waits at each open bracket, at a where's sign and at the operator: far below 16.
        private final int[] stack = new int[16];
        private int height;
        private int badPlace;

        /** badPlace is afterwards the first place in the text with a type that can't be, or NONE. */
        int typeOfPart(Program program, int part, int[] types) {
            height = 0;
            badPlace = NONE;
            int stop = program.stopOf(part);
            for (int i = program.startOf(part); i < stop; i++) {
                int item = program.items.get(i);
                int number = item - COLUMN_ITEM;
                if (number >= 0 && number < types.length) {
                    push(types[number]);
                } else {
                    push(resultOf(item, program.places.get(i)));
                }
            }
            return pop();
        }

        private int resultOf(int item, int place) {
            switch (item) {
                case DIGITS:
                    return NUMBER;
                case QUOTED:
                    return TEXT;
                case WORD_LEN:
                    noteUnlike(pop(), TEXT, place);
                    return NUMBER;
                case WORD_STR:
                    noteUnlike(pop(), NUMBER, place);
                    return TEXT;
                case '<':
                case '=':
                    noteUnlike(pop(), pop(), place);
                    return UNKNOWN;
                case '+':
                case '-':
                case '&':
                    int right = pop();
                    return operated(item, pop(), right, place);
                default:
                    return UNKNOWN;
            }
        }

        private int operated(int sign, int left, int right, int place) {
            if (left == UNKNOWN || right == UNKNOWN) {
                return UNKNOWN;
            }
            if (sign == '&' && left == TEXT && right == TEXT) {
                return TEXT;
            }
            if (sign != '&' && left != TEXT && right == NUMBER) {
                return left;
            }
            if (sign == '-' && left == DAY && right == DAY) {
                return NUMBER;
            }
            noteBad(place);
            return UNKNOWN;
        }

        private void noteUnlike(int one, int other, int place) {
            if (one != UNKNOWN && other != UNKNOWN && one != other) {
                noteBad(place);
            }
        }

        private void noteBad(int place) {
            if (badPlace == NONE || place < badPlace) {
                badPlace = place;
            }
        }

        private void push(int type) {
            if (height >= 0 && height < stack.length) {
                stack[height] = type;
                height++;
            }
        }

        private int pop() {
            if (height <= 0 || height > stack.length) {
                return UNKNOWN;
            }
            height--;
            return stack[height];
        }
    }
}
