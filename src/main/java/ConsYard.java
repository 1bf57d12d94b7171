/**
 * A house for lists: texts are read into cells and evaluated by the rules of LISP 1.5, on a machine
 * whose stack, fuel and memory are told to the last step and cell.
 */
public final class ConsYard {
    public static final int NONE = -1;

    private static final int TEXT_LIMIT = 2000;
    private static final int FEED_BYTES = 20;
    private static final int SYMBOL_LIMIT = 300;
    private static final int SIGN_LIMIT = 10;
    private static final int OPEN_LIMIT = 60;
    private static final int CELL_LIMIT = 2000;
    private static final int FIRST_ROOM = 1000;
    private static final int FRAME_LIMIT = 200;
    private static final int VALUE_LIMIT = 10;
    private static final int FUEL_LIMIT = 20000;

    private static final String FIRST_SYMBOLS =
            "NIL T QUOTE COND FUNCTION LAMBDA LABEL FUNARG CAR CDR CONS ATOM EQ NULL LIST EVAL NUMBERP PLUS DIFFERENCE TIMES QUOTIENT REMAINDER LESSP";
    private static final int NIL = 0;
    private static final int T = 1;
    private static final int QUOTE = 2;
    private static final int COND = 3;
    private static final int FUNCTION = 4;
    private static final int LAMBDA = 5;
    private static final int LABEL = 6;
    private static final int FUNARG = 7;
    private static final int CAR = 8;
    private static final int CDR = 9;
    private static final int CONS = 10;
    private static final int ATOM = 11;
    private static final int EQ = 12;
    private static final int NULL = 13;
    private static final int LIST = 14;
    private static final int EVAL = 15;
    private static final int NUMBERP = 16;
    private static final int PLUS = 17;
    private static final int DIFFERENCE = 18;
    private static final int TIMES = 19;
    private static final int QUOTIENT = 20;
    private static final int REMAINDER = 21;
    private static final int LESSP = 22;

    private static final int NO_FAULT = 0;
    private static final int FAULT_TEXT = 1;
    private static final int FAULT_ATOM = 2;
    private static final int FAULT_SYMBOLS = 3;
    private static final int FAULT_OPEN = 4;
    private static final int FAULT_FORM = 5;
    private static final int FAULT_VARIABLE = 6;
    private static final int FAULT_FUEL = 7;
    private static final int FAULT_MEMORY = 8;
    private static final int FAULT_COND = 9;
    private static final int FAULT_FUNCTION = 10;
    private static final int FAULT_VALUES = 11;
    private static final int FAULT_FRAMES = 12;
    private static final int FAULT_KIND = 13;

    private final Bytes tape;
    private final Bytes page;
    private final Symbols symbols;
    private final Row functions;
    private final Cells cells;
    private final Reader reader;
    private final Machine machine;
    private final Printer printer;

    public ConsYard() {
        Roots roots = new Roots();
        tape = new Bytes();
        page = new Bytes();
        symbols = new Symbols();
        functions = roots.functions;
        cells = new Cells(roots);
        reader = new Reader(tape, symbols, cells, roots.pending);
        machine = new Machine(cells, roots);
        printer = new Printer(page, symbols, cells);
    }

    public int feed(int a, int b, int c, int d, int e) {
        if (tape.size() + FEED_BYTES > TEXT_LIMIT) {
            return NONE;
        }
        tape.addNumber(a);
        tape.addNumber(b);
        tape.addNumber(c);
        tape.addNumber(d);
        tape.addNumber(e);
        return tape.size();
    }

    public int define(int n) throws IllegalArgumentException {
        if (n < 0 || n > tape.size()) {
            throw new IllegalArgumentException();
        }
        reader.begin(n);
        int symbol = reader.readName();
        long body = reader.readWhole();
        tape.clear();
        if (reader.fault() == NO_FAULT) {
            functions.put(symbol, body);
        }
        return reader.fault();
    }

    public int eval(int n, int fuel) throws IllegalArgumentException {
        if (n < 0 || n > tape.size() || fuel < 0 || fuel > FUEL_LIMIT) {
            throw new IllegalArgumentException();
        }
        reader.begin(n);
        long s = reader.readWhole();
        tape.clear();
        page.clear();
        machine.forget();
        if (reader.fault() != NO_FAULT) {
            return reader.fault();
        }
        machine.run(s, fuel);
        if (machine.fault() == NO_FAULT) {
            printer.print(machine.answer());
        }
        return machine.fault();
    }

    public int echo(int n) throws IllegalArgumentException {
        if (n < 0 || n > tape.size()) {
            throw new IllegalArgumentException();
        }
        reader.begin(n);
        long s = reader.readWhole();
        tape.clear();
        page.clear();
        if (reader.fault() == NO_FAULT) {
            printer.print(s);
        }
        return reader.fault();
    }

    public int place() {
        return reader.faultPlace();
    }

    public int room(int n) throws IllegalArgumentException {
        if (n < 0 || n > CELL_LIMIT) {
            throw new IllegalArgumentException();
        }
        int reached = cells.reachedByFunctions();
        if (reached > n) {
            return NONE;
        }
        cells.setLimit(n);
        return reached;
    }

    public int count(int what) {
        switch (what) {
            case 0:
                return symbols.size();
            case 1:
                return cells.reachedByFunctions();
            case 2:
                return machine.fuelTaken();
            case 3:
                return machine.mostFrames();
            case 4:
                return cells.made();
            case 5:
                return page.size();
            case 6:
                return tape.size();
            case 7:
                return cells.limit();
            case 8:
                return functions.present();
            default:
                return NONE;
        }
    }

    public int function(int k) {
        long body = functions.at(k);
        if (body == Value.MISSING) {
            return NONE;
        }
        printer.print(body);
        return page.size();
    }

    public int octet(int k) {
        return page.at(k);
    }

    /**
     * A VALUE is a long, its kind in the upper half: a NUMBER may be any int, so that no int is left
     * over to tell a SYMBOL or a CELL by. SYMBOL k is k itself, which makes NIL the 0 of a new row.
     */
    private static final class Value {
        static final long MISSING = -1L;
        static final long NUMBER = 1L << 32;
        static final long CELL = 2L << 32;

        static boolean isSymbol(long value) {
            return value >= 0 && value < SYMBOL_LIMIT;
        }

        static boolean isNumber(long value) {
            return value >= NUMBER && value < CELL;
        }

        static boolean isCell(long value) {
            return value >= CELL && value < CELL + CELL_LIMIT;
        }

        static long ofNumber(int number) {
            return NUMBER | (number & 0xFFFFFFFFL);
        }

        static long ofCell(int index) {
            return CELL + index;
        }

        static long ofTruth(boolean truth) {
            return truth ? T : NIL;
        }

        static int number(long value) {
            return (int) value;
        }
    }

    /** The TAPE, or the PAGE: what comes beyond the limit is left out. */
    private static final class Bytes {
        private final byte[] bytes = new byte[TEXT_LIMIT];
        private int size;

        int size() {
            return size;
        }

        int at(int k) {
            return k >= 0 && k < size ? bytes[k] & 255 : NONE;
        }

        void add(int octet) {
            if (size < bytes.length) {
                bytes[size] = (byte) octet;
                size++;
            }
        }

        void addNumber(int number) {
            for (int shift = 24; shift >= 0; shift -= 8) {
                add(number >>> shift);
            }
        }

        void clear() {
            size = 0;
        }
    }

    /** A row of VALUES of a bounded length; outside of it everything is MISSING. */
    private static final class Row {
        private final long[] values;
        private int size;

        Row(int limit) {
            values = new long[limit > 0 ? limit : 0];
        }

        int size() {
            return size;
        }

        long at(int k) {
            return k >= 0 && k < size ? values[k] : Value.MISSING;
        }

        void put(int k, long value) {
            if (k >= 0 && k < size) {
                values[k] = value;
            }
        }

        void add(long value) {
            if (size < values.length) {
                values[size] = value;
                size++;
            }
        }

        void cut(int newSize) {
            if (newSize >= 0 && newSize < size) {
                size = newSize;
            }
        }

        int present() {
            int found = 0;
            for (int k = 0; k < size; k++) {
                if (values[k] != Value.MISSING) {
                    found++;
                }
            }
            return found;
        }
    }

    /** All that keeps CELLS, in one object, so that memory can look at it without asking anybody. */
    private static final class Roots {
        final Row functions = new Row(SYMBOL_LIMIT);
        final Row pending = new Row(TEXT_LIMIT);
        final Row hand = new Row(VALUE_LIMIT);
        final Row stack = new Row(FRAME_LIMIT * Machine.FRAME_SLOTS);
        long x;
        long env;
        long function;

        Roots() {
            for (int k = 0; k < SYMBOL_LIMIT; k++) {
                functions.add(Value.MISSING);
            }
        }
    }

    /** The names of all SYMBOLS, a stretch of SIGN_LIMIT bytes for each. */
    private static final class Symbols {
        private final byte[] signs = new byte[SYMBOL_LIMIT * SIGN_LIMIT];
        private final int[] lengths = new int[SYMBOL_LIMIT];
        private int size = 1;

        Symbols() {
            for (int k = 0; k < FIRST_SYMBOLS.length(); k++) {
                char sign = FIRST_SYMBOLS.charAt(k);
                if (sign == ' ') {
                    size++;
                } else {
                    addSign(sign);
                }
            }
        }

        int size() {
            return size;
        }

        int lengthOf(int symbol) {
            return symbol >= 0 && symbol < size ? lengths[symbol] : 0;
        }

        int signOf(int symbol, int k) {
            return k >= 0 && k < lengthOf(symbol) ? signs[symbol * SIGN_LIMIT + k] : NONE;
        }

        /** The SYMBOL whose name stands in a text, new if need be; NONE if there can be no more. */
        int named(Bytes text, int start, int length) {
            for (int symbol = 0; symbol < size; symbol++) {
                if (lengths[symbol] == length && isNamed(symbol, text, start)) {
                    return symbol;
                }
            }
            if (size >= SYMBOL_LIMIT) {
                return NONE;
            }
            size++;
            for (int k = 0; k < length; k++) {
                addSign(text.at(start + k));
            }
            return size - 1;
        }

        private boolean isNamed(int symbol, Bytes text, int start) {
            for (int k = 0; k < lengths[symbol] && k < SIGN_LIMIT; k++) {
                if (signs[symbol * SIGN_LIMIT + k] != text.at(start + k)) {
                    return false;
                }
            }
            return true;
        }

        private void addSign(int sign) {
            int symbol = size - 1;
            if (symbol >= 0 && symbol < SYMBOL_LIMIT && lengths[symbol] < SIGN_LIMIT) {
                signs[symbol * SIGN_LIMIT + lengths[symbol]] = (byte) sign;
                lengths[symbol]++;
            }
        }
    }

    /**
     * MEMORY. CELLS in use are never fewer than those REACHED, so these are only counted, and the
     * others taken back, when as many as ROOM are in use.
     */
    private static final class Cells {
        private final Roots roots;
        private final Row[] rows;
        private final long[] heads = new long[CELL_LIMIT];
        private final long[] tails = new long[CELL_LIMIT];
        private final boolean[] reached = new boolean[CELL_LIMIT];
        private final int[] free = new int[CELL_LIMIT];
        // each CELL adds two VALUES and is itself taken off: never more than one for each, and a root
        private final long[] ahead = new long[CELL_LIMIT + 2];
        private int freeCount;
        private int limit = FIRST_ROOM;
        private int made;

        Cells(Roots roots) {
            this.roots = roots;
            rows = new Row[] {roots.functions, roots.pending, roots.hand, roots.stack};
            takeBack();
        }

        int made() {
            return made;
        }

        int limit() {
            return limit;
        }

        void setLimit(int newLimit) {
            limit = newLimit;
        }

        long head(long value) {
            long cell = value - Value.CELL;
            return cell >= 0 && cell < CELL_LIMIT ? heads[(int) cell] : Value.MISSING;
        }

        long tail(long value) {
            long cell = value - Value.CELL;
            return cell >= 0 && cell < CELL_LIMIT ? tails[(int) cell] : Value.MISSING;
        }

        /** A new CELL; MISSING if there is no ROOM for it. */
        long make(long head, long tail) {
            if (inUse() >= limit) {
                collect(head, tail);
            }
            int cell = freeCount > 0 && freeCount <= CELL_LIMIT ? free[freeCount - 1] : NONE;
            if (inUse() >= limit || cell < 0 || cell >= CELL_LIMIT) {
                return Value.MISSING;
            }
            freeCount--;
            heads[cell] = head;
            tails[cell] = tail;
            made++;
            return Value.ofCell(cell);
        }

        /** To be asked between calls only, when functions alone are ROOTS. */
        int reachedByFunctions() {
            collect(NIL, NIL);
            return inUse();
        }

        private int inUse() {
            return CELL_LIMIT - freeCount;
        }

        private void collect(long head, long tail) {
            reach(head);
            reach(tail);
            reach(roots.x);
            reach(roots.env);
            reach(roots.function);
            for (Row row : rows) {
                for (int k = 0; k < row.size(); k++) {
                    reach(row.at(k));
                }
            }
            takeBack();
        }

        private void reach(long root) {
            ahead[0] = root;
            int size = 1;
            // a turn takes one off, and only a CELL that is not yet REACHED adds two
            for (int turn = 0; turn <= 2 * CELL_LIMIT && size > 0; turn++) {
                size--;
                long offset = ahead[size] - Value.CELL;
                int cell = offset >= 0 && offset < CELL_LIMIT ? (int) offset : NONE;
                if (cell >= 0 && !reached[cell] && size + 2 <= ahead.length) {
                    reached[cell] = true;
                    ahead[size] = tails[cell];
                    ahead[size + 1] = heads[cell];
                    size += 2;
                }
            }
        }

        private void takeBack() {
            freeCount = 0;
            for (int cell = CELL_LIMIT - 1; cell >= 0; cell--) {
                if (!reached[cell]) {
                    free[freeCount] = cell;
                    freeCount++;
                }
                reached[cell] = false;
            }
        }
    }

    /** Reads one text from the left, with a row of what is open in place of recursion. */
    private static final class Reader {
        // what is open, or the text itself, and what may come next in it
        private static final int START = 0;
        private static final int WHOLE = 1;
        private static final int QUOTED = 2;
        private static final int LIST_EMPTY = 3;
        private static final int LIST_BEGUN = 4;
        private static final int LIST_DOTTED = 5;
        private static final int LIST_ENDED = 6;
        private static final long BEYOND_INT = 1L << 31;

        private final Bytes text;
        private final Symbols symbols;
        private final Cells cells;
        private final Row pending;
        private final int[] openStates = new int[OPEN_LIMIT];
        private final int[] openStarts = new int[OPEN_LIMIT];
        private int open;
        private int at;
        private int end;
        private int fault;
        private int faultPlace = NONE;
        private boolean whole;
        private long answer;

        Reader(Bytes text, Symbols symbols, Cells cells, Row pending) {
            this.text = text;
            this.symbols = symbols;
            this.cells = cells;
            this.pending = pending;
        }

        int fault() {
            return fault;
        }

        int faultPlace() {
            return faultPlace;
        }

        void begin(int length) {
            open = 0;
            at = 0;
            end = length;
            fault = NO_FAULT;
            faultPlace = NONE;
            whole = false;
            answer = NIL;
        }

        /** The SYMBOL ahead of a function; NONE with a FAULT. */
        int readName() {
            while (at < end && isBlank(text.at(at))) {
                at++;
            }
            int start = at;
            if (at >= end || !isLetter(text.at(at))) {
                fail(FAULT_TEXT, start);
                return NONE;
            }
            int symbol = readSymbol();
            if (symbol >= NIL && symbol <= FUNARG) {
                fail(FAULT_TEXT, start);
            }
            return symbol;
        }

        /** The one S that all the rest of the text is; of no use with a FAULT. */
        long readWhole() {
            for (int turn = 0; turn < TEXT_LIMIT && at < end && fault == NO_FAULT; turn++) {
                readToken();
            }
            if (!whole) {
                fail(FAULT_TEXT, end);
            }
            pending.cut(0);
            return answer;
        }

        private void fail(int number, int place) {
            if (fault == NO_FAULT) {
                fault = number;
                faultPlace = place;
            }
        }

        private void readToken() {
            int octet = text.at(at);
            if (isBlank(octet)) {
                at++;
            } else if (octet == '(') {
                openOne(LIST_EMPTY);
            } else if (octet == '\'') {
                openOne(QUOTED);
            } else if (octet == ')') {
                closeList();
            } else if (octet == '.') {
                readDot();
            } else {
                readAtom(octet);
            }
        }

        private int state() {
            if (open > 0 && open <= OPEN_LIMIT) {
                return openStates[open - 1];
            }
            return whole ? WHOLE : START;
        }

        private void setState(int state) {
            if (open > 0 && open <= OPEN_LIMIT) {
                openStates[open - 1] = state;
            }
        }

        private boolean mayBegin() {
            int state = state();
            return state != WHOLE && state != LIST_ENDED;
        }

        private void openOne(int state) {
            if (!mayBegin()) {
                fail(FAULT_TEXT, at);
            } else if (open >= OPEN_LIMIT) {
                fail(FAULT_OPEN, at);
            } else {
                openStates[open] = state;
                openStarts[open] = pending.size();
                open++;
                at++;
            }
        }

        private void readDot() {
            if (state() != LIST_BEGUN) {
                fail(FAULT_TEXT, at);
                return;
            }
            setState(LIST_DOTTED);
            at++;
        }

        private void closeList() {
            int state = state();
            if (state != LIST_EMPTY && state != LIST_BEGUN && state != LIST_ENDED) {
                fail(FAULT_TEXT, at);
                return;
            }
            int start = open > 0 && open <= OPEN_LIMIT ? openStarts[open - 1] : 0;
            int last = pending.size() - 1;
            long list = NIL;
            if (state == LIST_ENDED) {
                list = pending.at(last);
                last--;
            }
            for (int k = last; k >= start && list != Value.MISSING; k--) {
                list = cells.make(pending.at(k), list);
            }
            if (list == Value.MISSING) {
                fail(FAULT_MEMORY, at);
                return;
            }
            pending.cut(start);
            open--;
            at++;
            complete(list, at - 1);
        }

        private void readAtom(int octet) {
            int start = at;
            if (!mayBegin()) {
                fail(FAULT_TEXT, start);
            } else if (isLetter(octet)) {
                complete(readSymbol(), start);
            } else if (isDigit(octet) || octet == '-' && at + 1 < end && isDigit(text.at(at + 1))) {
                complete(readNumber(), start);
            } else {
                fail(FAULT_TEXT, start);
            }
        }

        private int readSymbol() {
            int start = at;
            while (at < end && (isLetter(text.at(at)) || isDigit(text.at(at)))) {
                at++;
            }
            if (at - start > SIGN_LIMIT) {
                fail(FAULT_ATOM, start);
                return NONE;
            }
            int symbol = symbols.named(text, start, at - start);
            if (symbol == NONE) {
                fail(FAULT_SYMBOLS, start);
            }
            return symbol;
        }

        private long readNumber() {
            int start = at;
            boolean negative = text.at(at) == '-';
            if (negative) {
                at++;
            }
            long size = 0;
            for (; at < end && isDigit(text.at(at)); at++) {
                // beyond every int no digit can bring it back, and more of them would wrap the long
                if (size <= BEYOND_INT) {
                    size = size * 10 + text.at(at) - '0';
                }
            }
            long number = negative ? -size : size;
            if (number < Integer.MIN_VALUE || number > Integer.MAX_VALUE) {
                fail(FAULT_ATOM, start);
            }
            return Value.ofNumber((int) number);
        }

        /** An S has been read, and so has each ' S that it ends. */
        private void complete(long read, int lastToken) {
            long s = read;
            for (int k = open; k > 0 && state() == QUOTED && fault == NO_FAULT; k--) {
                long list = cells.make(s, NIL);
                s = list == Value.MISSING ? Value.MISSING : cells.make(QUOTE, list);
                if (s == Value.MISSING) {
                    fail(FAULT_MEMORY, lastToken);
                }
                open--;
            }
            if (fault != NO_FAULT) {
                return;
            }
            if (open == 0) {
                whole = true;
                answer = s;
                return;
            }
            pending.add(s);
            setState(state() == LIST_DOTTED ? LIST_ENDED : LIST_BEGUN);
        }

        private static boolean isBlank(int octet) {
            return octet == ' ' || octet == '\n';
        }

        private static boolean isLetter(int octet) {
            return octet >= 'A' && octet <= 'Z';
        }

        private static boolean isDigit(int octet) {
            return octet >= '0' && octet <= '9';
        }
    }

    /**
     * The machine, a STEP at a time. A FRAME is a stretch of one stack: its function, its list, its
     * ENV, then its VALUES, which only the top FRAME gets more of. No call can have COND as its
     * function, so that a FRAME of COND is told by it.
     */
    private static final class Machine {
        static final int FRAME_LIST = 1;
        static final int FRAME_ENV = 2;
        static final int FRAME_VALUES = 3;
        static final int FRAME_SLOTS = FRAME_VALUES + VALUE_LIMIT;
        private static final int STOPPED = 0;
        private static final int EVALUATE = 1;
        private static final int RETURN = 2;
        private static final int APPLY = 3;

        private final Cells cells;
        private final Roots roots;
        private final Row hand;
        private final Row stack;
        private final Row variables = new Row(VALUE_LIMIT);
        private final int[] bases = new int[FRAME_LIMIT];
        private int frames;
        private int mostFrames;
        private int fuelLeft;
        private int fuelTaken;
        private int fault;
        private int next;
        private long value;

        Machine(Cells cells, Roots roots) {
            this.cells = cells;
            this.roots = roots;
            hand = roots.hand;
            stack = roots.stack;
        }

        int fault() {
            return fault;
        }

        long answer() {
            return value;
        }

        int fuelTaken() {
            return fuelTaken;
        }

        int mostFrames() {
            return mostFrames;
        }

        /** Nothing of an earlier run is told any more. */
        void forget() {
            fault = NO_FAULT;
            fuelTaken = 0;
            mostFrames = 0;
        }

        void run(long s, int fuel) {
            roots.x = s;
            fuelLeft = fuel;
            next = EVALUATE;
            for (int steps = 0; steps <= FUEL_LIMIT && next != STOPPED && burn(); steps++) {
                if (next == EVALUATE) {
                    evaluate();
                } else if (next == RETURN) {
                    takeValue();
                } else if (isBuiltIn(roots.function)) {
                    applyBuiltIn();
                } else {
                    apply();
                }
            }
            fuelTaken = fuel - fuelLeft;
            letGo();
        }

        // between runs functions alone are ROOTS
        private void letGo() {
            roots.x = NIL;
            roots.env = NIL;
            stack.cut(0);
            frames = 0;
            emptyHand();
        }

        // once applied, a function and its VALUES are no longer at hand, and so no ROOTS
        private void emptyHand() {
            roots.function = NIL;
            hand.cut(0);
        }

        private void fail(int number) {
            if (fault == NO_FAULT) {
                fault = number;
            }
            next = STOPPED;
        }

        private boolean burn() {
            if (fuelLeft <= 0) {
                fail(FAULT_FUEL);
                return false;
            }
            fuelLeft--;
            return true;
        }

        private void give(long found) {
            if (fault == NO_FAULT) {
                emptyHand();
                value = found;
                next = RETURN;
            }
        }

        private void evaluateNext(long x) {
            if (fault == NO_FAULT) {
                emptyHand();
                roots.x = x;
                next = EVALUATE;
            }
        }

        private long askHead(long list) {
            if (!Value.isCell(list)) {
                fail(FAULT_FORM);
                return NIL;
            }
            return cells.head(list);
        }

        private long askTail(long list) {
            if (!Value.isCell(list)) {
                fail(FAULT_FORM);
                return NIL;
            }
            return cells.tail(list);
        }

        private long askSecond(long list) {
            return askHead(askTail(list));
        }

        private long askThird(long list) {
            return askHead(askTail(askTail(list)));
        }

        private long cons(long head, long tail) {
            if (fault != NO_FAULT) {
                return NIL;
            }
            long cell = cells.make(head, tail);
            if (cell == Value.MISSING) {
                fail(FAULT_MEMORY);
            }
            return cell;
        }

        /** The TAIL of a SYMBOL's PAIR in ENV; MISSING without one, or with a FAULT. */
        private long lookUp(long symbol) {
            long rest = roots.env;
            for (int looked = 0; looked <= FUEL_LIMIT && Value.isCell(rest) && burn(); looked++) {
                long pair = cells.head(rest);
                long name = askHead(pair);
                if (fault != NO_FAULT) {
                    return Value.MISSING;
                }
                if (name == symbol) {
                    return cells.tail(pair);
                }
                rest = cells.tail(rest);
            }
            if (rest != NIL) {
                fail(FAULT_FORM);
            }
            return Value.MISSING;
        }

        private void evaluate() {
            long x = roots.x;
            if (!Value.isCell(x)) {
                evaluateAtom(x);
                return;
            }
            long first = cells.head(x);
            if (first == QUOTE) {
                give(askSecond(x));
            } else if (first == COND) {
                evaluateCond(cells.tail(x));
            } else if (first == FUNCTION) {
                evaluateFunction(askSecond(x));
            } else {
                evaluateCall(first, cells.tail(x));
            }
        }

        private void evaluateAtom(long x) {
            if (!Value.isSymbol(x) || x == NIL || x == T) {
                give(x);
                return;
            }
            long found = lookUp(x);
            if (found == Value.MISSING) {
                fail(FAULT_VARIABLE);
            } else {
                give(found);
            }
        }

        private void evaluateCond(long clauses) {
            if (!Value.isCell(clauses)) {
                fail(FAULT_COND);
                return;
            }
            pushFrame(COND, clauses);
            evaluateNext(askHead(cells.head(clauses)));
        }

        private void evaluateFunction(long function) {
            long list = cons(roots.env, NIL);
            list = cons(function, list);
            give(cons(FUNARG, list));
        }

        private void evaluateCall(long function, long arguments) {
            if (Value.isCell(arguments)) {
                pushFrame(function, arguments);
                evaluateNext(cells.head(arguments));
            } else if (arguments == NIL) {
                roots.function = function;
                next = APPLY;
            } else {
                fail(FAULT_FORM);
            }
        }

        private void pushFrame(long function, long list) {
            if (frames < 0 || frames >= FRAME_LIMIT) {
                fail(FAULT_FRAMES);
                return;
            }
            bases[frames] = stack.size();
            frames++;
            mostFrames = Math.max(mostFrames, frames);
            stack.add(function);
            stack.add(list);
            stack.add(roots.env);
        }

        private void popFrame(int base) {
            stack.cut(base);
            frames--;
        }

        private void takeValue() {
            if (frames <= 0 || frames > FRAME_LIMIT) {
                next = STOPPED;
                return;
            }
            int base = bases[frames - 1];
            roots.env = stack.at(base + FRAME_ENV);
            if (stack.at(base) == COND) {
                takeChoice(base);
            } else {
                takeArgument(base);
            }
        }

        private void takeChoice(int base) {
            long clauses = stack.at(base + FRAME_LIST);
            if (value != NIL) {
                popFrame(base);
                evaluateNext(askSecond(askHead(clauses)));
                return;
            }
            long rest = askTail(clauses);
            stack.put(base + FRAME_LIST, rest);
            if (Value.isCell(rest)) {
                evaluateNext(askHead(cells.head(rest)));
            } else {
                fail(FAULT_COND);
            }
        }

        private void takeArgument(int base) {
            if (stack.size() - base >= FRAME_SLOTS) {
                fail(FAULT_VALUES);
                return;
            }
            stack.add(value);
            long rest = askTail(stack.at(base + FRAME_LIST));
            stack.put(base + FRAME_LIST, rest);
            if (Value.isCell(rest)) {
                evaluateNext(cells.head(rest));
            } else if (rest == NIL) {
                takeInHand(base);
            } else {
                fail(FAULT_FORM);
            }
        }

        private void takeInHand(int base) {
            emptyHand();
            roots.function = stack.at(base);
            for (int k = base + FRAME_VALUES; k < stack.size(); k++) {
                hand.add(stack.at(k));
            }
            popFrame(base);
            next = APPLY;
        }

        private boolean isBuiltIn(long function) {
            return function >= CAR && function <= LESSP && roots.functions.at((int) function) == Value.MISSING;
        }

        private void apply() {
            long function = roots.function;
            if (Value.isSymbol(function)) {
                applySymbol(function);
                return;
            }
            long first = Value.isCell(function) ? cells.head(function) : Value.MISSING;
            if (first == LAMBDA) {
                applyLambda(function);
            } else if (first == LABEL) {
                applyLabel(function);
            } else if (first == FUNARG) {
                applyFunarg(function);
            } else {
                fail(FAULT_FUNCTION);
            }
        }

        private void applySymbol(long symbol) {
            long found = roots.functions.at((int) symbol);
            if (found == Value.MISSING) {
                found = lookUp(symbol);
            }
            if (found == Value.MISSING) {
                fail(FAULT_FUNCTION);
            } else {
                roots.function = found;
            }
        }

        private void applyLambda(long function) {
            int count = lookAtVariables(askSecond(function));
            long body = askThird(function);
            if (count != hand.size()) {
                fail(FAULT_VALUES);
            }
            for (int k = hand.size() - 1; k >= 0 && fault == NO_FAULT; k--) {
                long pair = cons(variables.at(k), hand.at(k));
                long env = cons(pair, roots.env);
                if (fault == NO_FAULT) {
                    roots.env = env;
                }
            }
            evaluateNext(body);
        }

        private int lookAtVariables(long list) {
            variables.cut(0);
            int count = 0;
            long rest = list;
            for (; count < CELL_LIMIT && Value.isCell(rest); count++) {
                long variable = cells.head(rest);
                askVariable(variable);
                variables.add(variable);
                rest = cells.tail(rest);
            }
            if (rest != NIL) {
                fail(FAULT_FORM);
            }
            return count;
        }

        private void askVariable(long variable) {
            if (!Value.isSymbol(variable) || variable == NIL || variable == T) {
                fail(FAULT_FORM);
            }
        }

        private void applyLabel(long function) {
            long name = askSecond(function);
            long labelled = askThird(function);
            askVariable(name);
            long pair = cons(name, labelled);
            long env = cons(pair, roots.env);
            if (fault == NO_FAULT) {
                roots.env = env;
                roots.function = labelled;
            }
        }

        private void applyFunarg(long function) {
            long inner = askSecond(function);
            long env = askThird(function);
            if (fault == NO_FAULT) {
                roots.function = inner;
                roots.env = env;
            }
        }

        private void applyBuiltIn() {
            int symbol = (int) roots.function;
            if (symbol != LIST && hand.size() != valuesWanted(symbol)) {
                fail(FAULT_VALUES);
                return;
            }
            long a = hand.at(0);
            long b = hand.at(1);
            switch (symbol) {
                case CAR:
                case CDR:
                    givePart(a, symbol == CAR);
                    break;
                case CONS:
                    give(cons(a, b));
                    break;
                case ATOM:
                    give(Value.ofTruth(!Value.isCell(a)));
                    break;
                case EQ:
                    give(Value.ofTruth(a == b && !Value.isCell(a)));
                    break;
                case NULL:
                    give(Value.ofTruth(a == NIL));
                    break;
                case LIST:
                    giveList();
                    break;
                case EVAL:
                    roots.env = b;
                    evaluateNext(a);
                    break;
                case NUMBERP:
                    give(Value.ofTruth(Value.isNumber(a)));
                    break;
                default:
                    giveReckoned(symbol, a, b);
                    break;
            }
        }

        private static int valuesWanted(int symbol) {
            switch (symbol) {
                case CAR:
                case CDR:
                case ATOM:
                case NULL:
                case NUMBERP:
                    return 1;
                default:
                    return 2;
            }
        }

        private void givePart(long list, boolean head) {
            if (!Value.isCell(list)) {
                fail(FAULT_KIND);
                return;
            }
            give(head ? cells.head(list) : cells.tail(list));
        }

        private void giveList() {
            long list = NIL;
            for (int k = hand.size() - 1; k >= 0; k--) {
                list = cons(hand.at(k), list);
            }
            give(list);
        }

        private void giveReckoned(int symbol, long first, long second) {
            if (!Value.isNumber(first) || !Value.isNumber(second)) {
                fail(FAULT_KIND);
                return;
            }
            int a = Value.number(first);
            int b = Value.number(second);
            if (symbol == LESSP) {
                give(Value.ofTruth(a < b));
            } else if (symbol == PLUS) {
                give(Value.ofNumber(a + b));
            } else if (symbol == DIFFERENCE) {
                give(Value.ofNumber(a - b));
            } else if (symbol == TIMES) {
                give(Value.ofNumber(a * b));
            } else if (b == 0) {
                fail(FAULT_KIND);
            } else {
                give(Value.ofNumber(symbol == QUOTIENT ? a / b : a % b));
            }
        }
    }

    /** Writes on the PAGE, with a row of what is left of each open list in place of recursion. */
    private static final class Printer {
        private final Bytes page;
        private final Symbols symbols;
        private final Cells cells;
        private final Row rests = new Row(TEXT_LIMIT);

        Printer(Bytes page, Symbols symbols, Cells cells) {
            this.page = page;
            this.symbols = symbols;
            this.cells = cells;
        }

        void print(long s) {
            page.clear();
            rests.cut(0);
            long next = s;
            // each turn writes a byte at least: shared CELLS may go on for ever behind a full PAGE
            for (int turn = 0; turn < TEXT_LIMIT && next != Value.MISSING; turn++) {
                if (Value.isCell(next)) {
                    page.add('(');
                    rests.add(cells.tail(next));
                    next = cells.head(next);
                } else {
                    printAtom(next);
                    next = nextElement();
                }
            }
        }

        /** What comes behind an ATOM, with the signs ahead of it; MISSING if all lists are closed. */
        private long nextElement() {
            for (int k = rests.size() - 1; k >= 0; k--) {
                long rest = rests.at(k);
                if (Value.isCell(rest)) {
                    page.add(' ');
                    rests.put(k, cells.tail(rest));
                    return cells.head(rest);
                }
                closeList(rest);
                rests.cut(k);
            }
            return Value.MISSING;
        }

        private void closeList(long end) {
            if (end != NIL) {
                page.add(' ');
                page.add('.');
                page.add(' ');
                printAtom(end);
            }
            page.add(')');
        }

        private void printAtom(long atom) {
            if (Value.isNumber(atom)) {
                printNumber(Value.number(atom));
                return;
            }
            int symbol = (int) atom;
            for (int k = 0; k < symbols.lengthOf(symbol); k++) {
                page.add(symbols.signOf(symbol, k));
            }
        }

        private void printNumber(int number) {
            if (number < 0) {
                page.add('-');
            }
            long size = Math.abs((long) number);
            for (long unit = 1000000000L; unit > 0; unit /= 10) {
                if (size >= unit || unit == 1) {
                    page.add('0' + (int) (size / unit % 10));
                }
            }
        }
    }
}
