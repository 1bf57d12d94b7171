import java.util.ArrayDeque;
import java.util.ArrayList;
import java.util.Collections;
import java.util.IdentityHashMap;
import java.util.LinkedHashMap;
import java.util.List;
import java.util.Map;
import java.util.Set;

/**
 * The document once more, as plainly as the Java library allows: CELLS are objects, nothing is taken
 * back, and what is REACHED is counted anew for each CELL. Slow, and only there to be compared with.
 */
final class PlainYard {
    /** SYMBOLS are interned Strings, so that == tells them apart; NUMBERS are Integers. */
    static final class Cell {
        final Object head;
        final Object tail;

        Cell(Object head, Object tail) {
            this.head = head;
            this.tail = tail;
        }
    }

    static final class Fault extends Exception {
        private static final long serialVersionUID = 1L;
        final int number;
        final int place;

        Fault(int number, int place) {
            super(null, null, false, false);
            this.number = number;
            this.place = place;
        }
    }

    static final class Frame {
        final boolean cond;
        final Object function;
        final Object env;
        final List<Object> values = new ArrayList<>();
        Object list;

        Frame(boolean cond, Object function, Object list, Object env) {
            this.cond = cond;
            this.function = function;
            this.list = list;
            this.env = env;
        }
    }

    private static final String NIL = "NIL";
    private static final String[] FIRST = ("NIL T QUOTE COND FUNCTION LAMBDA LABEL FUNARG CAR CDR CONS ATOM EQ NULL LIST EVAL "
            + "NUMBERP PLUS DIFFERENCE TIMES QUOTIENT REMAINDER LESSP").split(" ");

    private final List<String> names = new ArrayList<>();
    private final Map<String, Object> functions = new LinkedHashMap<>();
    private final StringBuilder tape = new StringBuilder();
    private String page = "";
    private int place = -1;
    private int room = 1000;
    private int made;
    private int fuelTaken;
    private int mostFrames;

    // of a text
    private String text;
    private int at;
    private int lastToken;
    private int open;
    private final List<Object> read = new ArrayList<>();

    // of the machine
    private Object x = NIL;
    private Object env = NIL;
    private Object function = NIL;
    private List<Object> values = new ArrayList<>();
    private final List<Frame> stack = new ArrayList<>();
    private int fuel;

    PlainYard() {
        for (String name : FIRST) {
            names.add(name.intern());
        }
    }

    int feed(int a, int b, int c, int d, int e) {
        if (tape.length() > 1980) {
            return -1;
        }
        for (int word : new int[] {a, b, c, d, e}) {
            for (int shift = 24; shift >= 0; shift -= 8) {
                tape.append((char) (word >> shift & 255));
            }
        }
        return tape.length();
    }

    private void take(int n) {
        if (n < 0 || n > tape.length()) {
            throw new IllegalArgumentException();
        }
        text = tape.substring(0, n);
        tape.setLength(0);
        at = 0;
        open = 0;
        place = -1;
        read.clear();
    }

    int define(int n) {
        take(n);
        try {
            skip();
            int start = at;
            if (at >= text.length() || !letter(text.charAt(at))) {
                throw new Fault(1, at);
            }
            String name = symbol();
            if (names.indexOf(name) < 8) {
                throw new Fault(1, start);
            }
            Object body = alone();
            functions.put(name, body);
            return 0;
        } catch (Fault f) {
            place = f.place;
            return f.number;
        } finally {
            read.clear();
        }
    }

    int echo(int n) {
        take(n);
        page = "";
        try {
            page = print(alone());
            return 0;
        } catch (Fault f) {
            place = f.place;
            return f.number;
        } finally {
            read.clear();
        }
    }

    int eval(int n, int givenFuel) {
        if (givenFuel < 0 || givenFuel > 20000) {
            throw new IllegalArgumentException();
        }
        take(n);
        page = "";
        fuelTaken = 0;
        mostFrames = 0;
        Object s;
        try {
            s = alone();
        } catch (Fault f) {
            place = f.place;
            return f.number;
        } finally {
            read.clear();
        }
        fuel = givenFuel;
        try {
            page = print(run(s));
            return 0;
        } catch (Fault f) {
            return f.number;
        } finally {
            fuelTaken = givenFuel - fuel;
            x = NIL;
            env = NIL;
            function = NIL;
            values = new ArrayList<>();
            stack.clear();
        }
    }

    int place() {
        return place;
    }

    int room(int n) {
        if (n < 0 || n > 2000) {
            throw new IllegalArgumentException();
        }
        int reached = reached(NIL, NIL);
        if (reached > n) {
            return -1;
        }
        room = n;
        return reached;
    }

    int count(int what) {
        int[] all = {names.size(), reached(NIL, NIL), fuelTaken, mostFrames, made, page.length(), tape.length(), room,
            functions.size()};
        return what < 0 || what >= all.length ? -1 : all[what];
    }

    int function(int k) {
        Object body = k < 0 || k >= names.size() ? null : functions.get(names.get(k));
        if (body == null) {
            return -1;
        }
        page = print(body);
        return page.length();
    }

    int octet(int k) {
        return k < 0 || k >= page.length() ? -1 : page.charAt(k);
    }

    // ---- memory

    private int reached(Object head, Object tail) {
        Set<Cell> seen = Collections.newSetFromMap(new IdentityHashMap<>());
        ArrayDeque<Object> ahead = new ArrayDeque<>();
        ahead.addAll(functions.values());
        ahead.addAll(read);
        ahead.addAll(List.of(x, env, function, head, tail));
        ahead.addAll(values);
        for (Frame frame : stack) {
            ahead.addAll(List.of(frame.function, frame.list, frame.env));
            ahead.addAll(frame.values);
        }
        while (!ahead.isEmpty()) {
            if (ahead.pop() instanceof Cell cell && seen.add(cell)) {
                ahead.push(cell.head);
                ahead.push(cell.tail);
            }
        }
        return seen.size();
    }

    private Cell make(Object head, Object tail, int where) throws Fault {
        if (reached(head, tail) >= room) {
            throw new Fault(8, where);
        }
        made++;
        return new Cell(head, tail);
    }

    // ---- texts, by recursion

    private static boolean letter(char c) {
        return c >= 'A' && c <= 'Z';
    }

    private static boolean digit(char c) {
        return c >= '0' && c <= '9';
    }

    private void skip() {
        while (at < text.length() && (text.charAt(at) == ' ' || text.charAt(at) == '\n')) {
            at++;
        }
    }

    private char peek() throws Fault {
        skip();
        if (at >= text.length()) {
            throw new Fault(1, text.length());
        }
        return text.charAt(at);
    }

    private Object alone() throws Fault {
        Object s = expression();
        skip();
        if (at < text.length()) {
            throw new Fault(1, at);
        }
        return s;
    }

    private Object expression() throws Fault {
        char c = peek();
        lastToken = at;
        if (c == '(' || c == '\'') {
            if (open == 60) {
                throw new Fault(4, at);
            }
            open++;
            at++;
            Object s = c == '(' ? list() : quoted();
            open--;
            return s;
        }
        if (letter(c)) {
            return symbol();
        }
        if (digit(c) || c == '-' && at + 1 < text.length() && digit(text.charAt(at + 1))) {
            return number();
        }
        throw new Fault(1, at);
    }

    private Object quoted() throws Fault {
        Object s = expression();
        return make("QUOTE", make(s, NIL, lastToken), lastToken);
    }

    private Object list() throws Fault {
        int start = read.size();
        Object end = NIL;
        while (peek() != ')') {
            if (peek() == '.' && read.size() > start) {
                at++;
                end = expression();
                read.add(end);
                if (peek() != ')') {
                    throw new Fault(1, at);
                }
                lastToken = at;
                at++;
                return close(start, read.size() - 2, end);
            }
            read.add(expression());
        }
        lastToken = at;
        at++;
        return close(start, read.size() - 1, end);
    }

    private Object close(int start, int last, Object end) throws Fault {
        Object list = end;
        for (int k = last; k >= start; k--) {
            list = make(read.get(k), list, at - 1);
        }
        while (read.size() > start) {
            read.remove(read.size() - 1);
        }
        return list;
    }

    private String symbol() throws Fault {
        int start = at;
        while (at < text.length() && (letter(text.charAt(at)) || digit(text.charAt(at)))) {
            at++;
        }
        String name = text.substring(start, at).intern();
        if (name.length() > 10) {
            throw new Fault(2, start);
        }
        if (!names.contains(name)) {
            if (names.size() == 300) {
                throw new Fault(3, start);
            }
            names.add(name);
        }
        return name;
    }

    private Integer number() throws Fault {
        int start = at;
        at++;
        while (at < text.length() && digit(text.charAt(at))) {
            at++;
        }
        java.math.BigInteger big = new java.math.BigInteger(text.substring(start, at));
        if (big.bitLength() > 31) {
            throw new Fault(2, start);
        }
        return big.intValue();
    }

    private static String print(Object s) {
        StringBuilder out = new StringBuilder();
        print(s, out);
        return out.length() > 2000 ? out.substring(0, 2000) : out.toString();
    }

    private static void print(Object s, StringBuilder out) {
        if (!(s instanceof Cell)) {
            out.append(s);
            return;
        }
        String sign = "(";
        Object rest = s;
        while (rest instanceof Cell cell && out.length() <= 2000) {
            out.append(sign);
            print(cell.head, out);
            sign = " ";
            rest = cell.tail;
        }
        if (rest != NIL) {
            out.append(" . ").append(rest);
        }
        out.append(")");
    }

    // ---- the machine

    private static Cell form(Object s) throws Fault {
        if (s instanceof Cell cell) {
            return cell;
        }
        throw new Fault(5, -1);
    }

    private static Object second(Object s) throws Fault {
        return form(form(s).tail).head;
    }

    private static Object third(Object s) throws Fault {
        return form(form(form(s).tail).tail).head;
    }

    private void burn() throws Fault {
        if (fuel == 0) {
            throw new Fault(7, -1);
        }
        fuel--;
    }

    private Object lookUp(Object symbol) throws Fault {
        Object rest = env;
        while (rest instanceof Cell cell) {
            burn();
            Cell pair = form(cell.head);
            if (pair.head == symbol) {
                return pair.tail;
            }
            rest = cell.tail;
        }
        if (rest != NIL) {
            throw new Fault(5, -1);
        }
        return null;
    }

    private void push(Frame frame) throws Fault {
        if (stack.size() == 200) {
            throw new Fault(12, -1);
        }
        stack.add(frame);
        mostFrames = Math.max(mostFrames, stack.size());
    }

    private static final Object EVALUATE = new Object();
    private static final Object APPLY = new Object();

    private Object run(Object s) throws Fault {
        x = s;
        Object next = EVALUATE;
        while (true) {
            burn();
            if (next == EVALUATE) {
                next = evaluate();
            } else if (next == APPLY) {
                next = apply();
            } else if (stack.isEmpty()) {
                return next;
            } else {
                next = takeValue(next);
            }
            if (next != APPLY) {
                function = NIL;
                values = new ArrayList<>();
            }
        }
    }

    private Object evaluate() throws Fault {
        if (x instanceof Integer || x == NIL || x.equals("T")) {
            return x;
        }
        if (x instanceof String) {
            Object found = lookUp(x);
            if (found == null) {
                throw new Fault(6, -1);
            }
            return found;
        }
        Cell cell = (Cell) x;
        if (cell.head.equals("QUOTE")) {
            return second(x);
        }
        if (cell.head.equals("COND")) {
            if (!(cell.tail instanceof Cell clauses)) {
                throw new Fault(9, -1);
            }
            push(new Frame(true, NIL, clauses, env));
            x = form(clauses.head).head;
            return EVALUATE;
        }
        if (cell.head.equals("FUNCTION")) {
            Object f = second(x);
            return make("FUNARG", make(f, make(env, NIL, -1), -1), -1);
        }
        if (cell.tail instanceof Cell arguments) {
            push(new Frame(false, cell.head, arguments, env));
            x = arguments.head;
            return EVALUATE;
        }
        if (cell.tail != NIL) {
            throw new Fault(5, -1);
        }
        function = cell.head;
        values = new ArrayList<>();
        return APPLY;
    }

    private Object takeValue(Object value) throws Fault {
        Frame top = stack.get(stack.size() - 1);
        env = top.env;
        if (top.cond) {
            if (value != NIL) {
                stack.remove(top);
                x = second(form(top.list).head);
                return EVALUATE;
            }
            top.list = form(top.list).tail;
            if (!(top.list instanceof Cell clauses)) {
                throw new Fault(9, -1);
            }
            x = form(clauses.head).head;
            return EVALUATE;
        }
        if (top.values.size() == 10) {
            throw new Fault(11, -1);
        }
        top.values.add(value);
        top.list = form(top.list).tail;
        if (top.list instanceof Cell arguments) {
            x = arguments.head;
            return EVALUATE;
        }
        if (top.list != NIL) {
            throw new Fault(5, -1);
        }
        stack.remove(top);
        function = top.function;
        values = top.values;
        return APPLY;
    }

    private Object apply() throws Fault {
        if (function instanceof Integer) {
            throw new Fault(10, -1);
        }
        if (function instanceof String name) {
            Object found = functions.get(name);
            int number = names.indexOf(name);
            if (found == null && number >= 8 && number <= 22) {
                return builtIn(name);
            }
            if (found == null) {
                found = lookUp(name);
            }
            if (found == null) {
                throw new Fault(10, -1);
            }
            function = found;
            return APPLY;
        }
        Object head = ((Cell) function).head;
        if (head.equals("LAMBDA")) {
            return lambda();
        }
        if (head.equals("LABEL")) {
            Object name = variable(second(function));
            Object labelled = third(function);
            env = make(make(name, labelled, -1), env, -1);
            function = labelled;
            return APPLY;
        }
        if (head.equals("FUNARG")) {
            Object inner = second(function);
            env = third(function);
            function = inner;
            return APPLY;
        }
        throw new Fault(10, -1);
    }

    private static Object variable(Object v) throws Fault {
        if (!(v instanceof String) || v.equals("NIL") || v.equals("T")) {
            throw new Fault(5, -1);
        }
        return v;
    }

    private Object lambda() throws Fault {
        List<Object> variables = new ArrayList<>();
        Object rest = second(function);
        Object body = third(function);
        while (rest instanceof Cell cell) {
            variables.add(variable(cell.head));
            rest = cell.tail;
        }
        if (rest != NIL) {
            throw new Fault(5, -1);
        }
        if (variables.size() != values.size()) {
            throw new Fault(11, -1);
        }
        for (int k = values.size() - 1; k >= 0; k--) {
            Cell pair = make(variables.get(k), values.get(k), -1);
            env = make(pair, env, -1);
        }
        x = body;
        return EVALUATE;
    }

    private void wants(int count) throws Fault {
        if (values.size() != count) {
            throw new Fault(11, -1);
        }
    }

    private Object builtIn(String name) throws Fault {
        if (name.equals("LIST")) {
            Object list = NIL;
            for (int k = values.size() - 1; k >= 0; k--) {
                list = make(values.get(k), list, -1);
            }
            return list;
        }
        wants(List.of("CAR", "CDR", "ATOM", "NULL", "NUMBERP").contains(name) ? 1 : 2);
        Object a = values.get(0);
        Object b = values.size() > 1 ? values.get(1) : NIL;
        switch (name) {
            case "CAR":
            case "CDR":
                if (!(a instanceof Cell)) {
                    throw new Fault(13, -1);
                }
                return name.equals("CAR") ? ((Cell) a).head : ((Cell) a).tail;
            case "CONS":
                return make(a, b, -1);
            case "ATOM":
                return truth(!(a instanceof Cell));
            case "EQ":
                return truth(!(a instanceof Cell) && a.equals(b));
            case "NULL":
                return truth(a == NIL);
            case "NUMBERP":
                return truth(a instanceof Integer);
            case "EVAL":
                x = a;
                env = b;
                return EVALUATE;
            default:
                return reckon(name, a, b);
        }
    }

    private Object truth(boolean truth) {
        return names.get(truth ? 1 : 0);
    }

    private Object reckon(String name, Object first, Object second) throws Fault {
        if (!(first instanceof Integer a) || !(second instanceof Integer b)) {
            throw new Fault(13, -1);
        }
        if (b == 0 && (name.equals("QUOTIENT") || name.equals("REMAINDER"))) {
            throw new Fault(13, -1);
        }
        switch (name) {
            case "PLUS":
                return a + b;
            case "DIFFERENCE":
                return a - b;
            case "TIMES":
                return a * b;
            case "QUOTIENT":
                return a / b;
            case "REMAINDER":
                return a % b;
            default:
                return truth(a < b);
        }
    }
}
