import java.util.Arrays;

/**
 * Programs of a stack machine as bytes: read with the first fault and its place, verified with types of all that is
 * on the stack, changed instruction by instruction, written again.
 */
public final class StackBytes {
    public static final int NONE = -1;

    private static final int MOST_BYTES = 4096;
    private static final int MOST_FUNCTIONS = 12;
    private static final int MOST_PARAMS = 4;
    private static final int MOST_LOCALS = 12;
    private static final int MOST_INSTRUCTIONS = 400;
    private static final int MOST_HANDLERS = 6;
    private static final int MOST_ON_STACK = 16;
    private static final int MOST_SERVICE = 15;

    // The longest PROGRAM there can be: each FUNCTION full of PUSHES, and of HANDLERS with a code.
    private static final int MOST_WRITTEN = 4 + MOST_FUNCTIONS * (8 + 5 * MOST_INSTRUCTIONS + 11 * MOST_HANDLERS);

    private static final int FIRST_BYTE = 71;
    private static final int SECOND_BYTE = 70;
    private static final int THIRD_BYTE = 1;

    private static final int FUNCTION_STEP = 512;

    // Integer's own names for these do not stand in the language's rule 4.
    private static final int LEAST_INT = 1 << 31;
    private static final int GREATEST_INT = ~LEAST_INT;

    // Types have the numbers that RESULT has for them; ANY is what a take of either type asks for.
    private static final int ANY = 0;
    private static final int INT = 1;
    private static final int ROW = 2;

    private static final int BYTES_END = 1;
    private static final int OTHER_START = 2;
    private static final int NO_SUCH_NUMBER = 3;
    private static final int BYTES_LEFT = 4;
    private static final int WRONG_TYPES = 5;
    private static final int STACK_FULL = 6;
    private static final int TYPES_DIFFER = 7;
    private static final int NONE_BEHIND = 8;

    private static final int PUSH = 0;
    private static final int POP = 1;
    private static final int DUP = 2;
    private static final int SWAP = 3;
    private static final int LOAD = 4;
    private static final int STORE = 5;
    private static final int JUMP = 18;
    private static final int IF = 19;
    private static final int IFNOT = 20;
    private static final int NEW = 21;
    private static final int GET = 22;
    private static final int PUT = 23;
    private static final int SIZE = 24;
    private static final int CALL = 25;
    private static final int HOST = 26;
    private static final int RETURN = 27;
    private static final int THROW = 28;
    private static final int GUARD = 29;
    private static final int LAST_OP = 29;

    private final ByteRow bytes;
    private final ByteRow written;
    private final Fault latest;
    private final Verifier verifier;
    private Program program;
    // What is read goes here first, so that a fault leaves the PROGRAM as it is.
    private Program spare;

    public StackBytes() {
        bytes = new ByteRow(MOST_BYTES);
        written = new ByteRow(MOST_WRITTEN);
        latest = new Fault();
        verifier = new Verifier();
        program = new Program();
        spare = new Program();
    }

    public boolean give(long v, int n) {
        return n >= 1 && n <= 8 && bytes.add(v, n);
    }

    public boolean cut(int n) {
        return bytes.keepFirst(n);
    }

    public boolean poke(int k, int b) {
        return bytes.set(k, b);
    }

    public int read() {
        latest.clear();
        new Reader(bytes, latest).readInto(spare);
        for (int f = 0; f < spare.count && latest.kind == 0; f++) {
            verifier.verify(spare, f, latest);
        }
        if (latest.kind == 0) {
            Program old = program;
            program = spare;
            spare = old;
        }
        return latest.kind;
    }

    public int write() {
        written.keepFirst(0);
        program.appendTo(written);
        return written.count;
    }

    public boolean turnOver() {
        return bytes.become(written);
    }

    public int change(int function, int i, int op, int behind) {
        latest.clear();
        Function changed = program.at(function);
        if (changed == null || !changed.has(i) || !Kinds.canStand(op, behind, changed, program.count)) {
            latest.tell(NO_SUCH_NUMBER, NONE);
            return latest.kind;
        }
        int oldOp = changed.ops[i];
        int oldBehind = changed.behinds[i];
        changed.ops[i] = op;
        changed.behinds[i] = behind;
        // The other FUNCTIONS see only PARAMS and RESULT of this one, which stay: they are VERIFIED as before.
        verifier.verify(program, function, latest);
        if (latest.kind != 0) {
            changed.ops[i] = oldOp;
            changed.behinds[i] = oldBehind;
        }
        return latest.kind;
    }

    public int code(int function, int i, int what) {
        Function asked = program.at(function);
        if (asked == null || !asked.has(i)) {
            return 0;
        }
        switch (what) {
            case 0:
                return asked.ops[i];
            case 1:
                return asked.behinds[i];
            case 2:
                return asked.depths[i];
            case 3:
                return asked.rowsOnStack[i];
            case 4:
                return asked.isGoneTo(i) ? 1 : 0;
            default:
                return 0;
        }
    }

    public int function(int function, int what) {
        Function asked = program.at(function);
        if (asked == null) {
            return NONE;
        }
        switch (what) {
            case 0:
                return asked.params;
            case 1:
                return asked.locals;
            case 2:
                return asked.rowLocals;
            case 3:
                return asked.result;
            case 4:
                return asked.count;
            case 5:
                return asked.handlerCount;
            case 6:
                return asked.comeTo();
            case 7:
                return asked.deepest();
            default:
                return NONE;
        }
    }

    public int handler(int function, int k, int what) {
        Function asked = program.at(function);
        if (asked == null || k < 0 || k >= asked.handlerCount) {
            return 0;
        }
        Handler handler = asked.handlers[k];
        switch (what) {
            case 0:
                return handler.from;
            case 1:
                return handler.to;
            case 2:
                return handler.target;
            case 3:
                return handler.forAny ? 1 : 0;
            case 4:
                return handler.code;
            default:
                return 0;
        }
    }

    public int byteAt(int k, boolean into) {
        return into ? bytes.at(k) : written.at(k);
    }

    public int look(int which) {
        switch (which) {
            case 0:
                return program.count;
            case 1:
                return program.instructions();
            case 2:
                return bytes.count;
            case 3:
                return written.count;
            case 4:
                return latest.kind;
            case 5:
                return latest.place;
            default:
                return NONE;
        }
    }

    /** The first fault that is told since the latest clear: later ones are not heard. */
    private static final class Fault {
        int kind;
        int place;

        Fault() {
            kind = 0;
            place = NONE;
        }

        void clear() {
            kind = 0;
            place = NONE;
        }

        void tell(int newKind, int newPlace) {
            if (kind == 0) {
                kind = newKind;
                place = newPlace;
            }
        }
    }

    /** Bytes, up to a limit; the room for them grows by doubling, so that an object with few of them stays small. */
    private static final class ByteRow {
        private static final int FIRST_ROOM = 64;

        final int most;
        byte[] row;
        int count;

        ByteRow(int most) {
            this.most = most;
            row = new byte[FIRST_ROOM];
            count = 0;
        }

        /** Adds the lowest n bytes of v, the highest of them first; n is 0 to 8. */
        boolean add(long v, int n) {
            if (n > most - count) {
                return false;
            }
            makeRoom(count + n);
            for (int k = n - 1; k >= 0; k--) {
                row[count] = (byte) (v >> (8 * k));
                count++;
            }
            return true;
        }

        boolean keepFirst(int n) {
            if (n < 0 || n > count) {
                return false;
            }
            count = n;
            return true;
        }

        boolean set(int k, int b) {
            if (k < 0 || k >= count) {
                return false;
            }
            row[k] = (byte) b;
            return true;
        }

        int at(int k) {
            return k < 0 || k >= count ? NONE : row[k] & 255;
        }

        boolean become(ByteRow other) {
            if (other.count > most) {
                return false;
            }
            makeRoom(other.count);
            System.arraycopy(other.row, 0, row, 0, other.count);
            count = other.count;
            return true;
        }

        private void makeRoom(int needed) {
            if (needed > row.length) {
                row = Arrays.copyOf(row, Math.max(needed, Math.min(most, 2 * row.length)));
            }
        }
    }

    /** What is told of INSTRUCTIONS by their kind alone. */
    private static final class Kinds {
        static boolean goesToPlace(int op) {
            return op == JUMP || op == IF || op == IFNOT;
        }

        static boolean goesOnBehind(int op) {
            return op != JUMP && op != RETURN && op != THROW;
        }

        static int bytesBehind(int op) {
            switch (op) {
                case PUSH:
                    return 4;
                case JUMP:
                case IF:
                case IFNOT:
                    return 2;
                case LOAD:
                case STORE:
                case CALL:
                case HOST:
                case GUARD:
                    return 1;
                default:
                    return 0;
            }
        }

        static int leastBehind(int op) {
            return op == PUSH ? LEAST_INT : 0;
        }

        /** The greatest number behind op in a FUNCTION; NONE if no number can be there. */
        static int mostBehind(int op, Function function, int functions) {
            switch (op) {
                case PUSH:
                    return GREATEST_INT;
                case LOAD:
                case STORE:
                    return function.locals - 1;
                case JUMP:
                case IF:
                case IFNOT:
                    return function.count - 1;
                case CALL:
                    return functions - 1;
                case HOST:
                case GUARD:
                    return MOST_SERVICE;
                default:
                    return 0;
            }
        }

        static boolean canStand(int op, int behind, Function function, int functions) {
            return op >= 0 && op <= LAST_OP
                && behind >= leastBehind(op) && behind <= mostBehind(op, function, functions);
        }
    }

    private static final class Handler {
        int from;
        int to;
        int target;
        boolean forAny;
        int code;

        boolean covers(int i) {
            return i >= from && i < to;
        }

        void appendTo(ByteRow out) {
            out.add(from, 2);
            out.add(to, 2);
            out.add(target, 2);
            out.add(forAny ? 0 : 1, 1);
            out.add(code, forAny ? 0 : 4);
        }
    }

    /** A FUNCTION with room for all that one can hold; a new one only RETURNS. */
    private static final class Function {
        int params;
        int locals;
        int rowLocals;
        int result;
        int count;
        int handlerCount;
        final int[] ops = new int[MOST_INSTRUCTIONS];
        final int[] behinds = new int[MOST_INSTRUCTIONS];
        // How many are on the STACK ahead of each INSTRUCTION, NONE if it is never come to; and which are ROWS.
        final int[] depths = new int[MOST_INSTRUCTIONS];
        final int[] rowsOnStack = new int[MOST_INSTRUCTIONS];
        final Handler[] handlers = new Handler[MOST_HANDLERS];

        Function() {
            count = 1;
            ops[0] = RETURN;
            for (int k = 0; k < MOST_HANDLERS; k++) {
                handlers[k] = new Handler();
            }
        }

        boolean has(int i) {
            return i >= 0 && i < count;
        }

        int typeOfLocal(int l) {
            return (rowLocals >> l & 1) == 1 ? ROW : INT;
        }

        boolean isGoneTo(int i) {
            for (int j = 0; j < count; j++) {
                if (Kinds.goesToPlace(ops[j]) && behinds[j] == i) {
                    return true;
                }
            }
            for (int k = 0; k < handlerCount; k++) {
                if (handlers[k].target == i) {
                    return true;
                }
            }
            return false;
        }

        int comeTo() {
            int found = 0;
            for (int i = 0; i < count; i++) {
                if (depths[i] != NONE) {
                    found++;
                }
            }
            return found;
        }

        int deepest() {
            int found = 0;
            for (int i = 0; i < count; i++) {
                found = Math.max(found, depths[i]);
            }
            return found;
        }

        void appendTo(ByteRow out) {
            out.add(params, 1);
            out.add(locals, 1);
            out.add(rowLocals, 2);
            out.add(result, 1);
            out.add(count, 2);
            for (int i = 0; i < count; i++) {
                out.add(ops[i], 1);
                out.add(behinds[i], Kinds.bytesBehind(ops[i]));
            }
            out.add(handlerCount, 1);
            for (int k = 0; k < handlerCount; k++) {
                handlers[k].appendTo(out);
            }
        }
    }

    /** FUNCTIONS, made when a PROGRAM first has so many and then used again; a new PROGRAM has one. */
    private static final class Program {
        final Function[] functions = new Function[MOST_FUNCTIONS];
        int count;

        Program() {
            functions[0] = new Function();
            count = 1;
        }

        Function at(int f) {
            return f < 0 || f >= count ? null : functions[f];
        }

        void setCount(int n) {
            for (int f = 0; f < n; f++) {
                if (functions[f] == null) {
                    functions[f] = new Function();
                }
            }
            count = n;
        }

        int instructions() {
            int all = 0;
            for (int f = 0; f < count; f++) {
                all += functions[f].count;
            }
            return all;
        }

        void appendTo(ByteRow out) {
            out.add(FIRST_BYTE, 1);
            out.add(SECOND_BYTE, 1);
            out.add(THIRD_BYTE, 1);
            out.add(count, 1);
            for (int f = 0; f < count; f++) {
                functions[f].appendTo(out);
            }
        }
    }

    /** Reads bytes once, into a PROGRAM; behind a fault it only comes to its end, with numbers within the limits. */
    private static final class Reader {
        final ByteRow in;
        final Fault fault;
        int at;

        Reader(ByteRow in, Fault fault) {
            this.in = in;
            this.fault = fault;
            at = 0;
        }

        void readInto(Program program) {
            start(FIRST_BYTE);
            start(SECOND_BYTE);
            start(THIRD_BYTE);
            program.setCount(number(1, 1, MOST_FUNCTIONS));
            for (int f = 0; f < program.count && fault.kind == 0; f++) {
                head(program.functions[f], f == 0);
                instructions(program.functions[f], program.count);
                handlers(program.functions[f]);
            }
            if (at < in.count) {
                fault.tell(BYTES_LEFT, at);
            }
        }

        private void start(int due) {
            int place = at;
            if (nextByte() != due) {
                fault.tell(OTHER_START, place);
            }
        }

        private void head(Function function, boolean isFirst) {
            function.params = number(1, 0, isFirst ? 0 : MOST_PARAMS);
            function.locals = number(1, function.params, MOST_LOCALS);
            function.rowLocals = number(2, 0, (1 << function.locals) - 1);
            function.result = number(1, 0, isFirst ? INT : ROW);
            function.count = number(2, 1, MOST_INSTRUCTIONS);
        }

        private void instructions(Function function, int functions) {
            for (int i = 0; i < function.count && fault.kind == 0; i++) {
                int op = number(1, 0, LAST_OP);
                function.ops[i] = op;
                function.behinds[i] = number(Kinds.bytesBehind(op), Kinds.leastBehind(op),
                    Kinds.mostBehind(op, function, functions));
            }
        }

        private void handlers(Function function) {
            function.handlerCount = number(1, 0, MOST_HANDLERS);
            for (int k = 0; k < function.handlerCount && fault.kind == 0; k++) {
                Handler handler = function.handlers[k];
                handler.from = number(2, 0, function.count - 1);
                handler.to = number(2, handler.from + 1, function.count);
                handler.target = number(2, 0, function.count - 1);
                handler.forAny = number(1, 0, 1) == 0;
                handler.code = number(handler.forAny ? 0 : 4, LEAST_INT, GREATEST_INT);
            }
        }

        /** The number in the next n bytes (0 if n is 0); least, if there is a fault. */
        private int number(int n, int least, int most) {
            int place = at;
            int value = 0;
            for (int k = 0; k < n; k++) {
                value = value << 8 | nextByte();
            }
            if (value < least || value > most) {
                fault.tell(NO_SUCH_NUMBER, place);
            }
            return fault.kind == 0 ? value : least;
        }

        private int nextByte() {
            if (at >= in.count) {
                fault.tell(BYTES_END, in.count);
                return 0;
            }
            int found = in.at(at);
            at++;
            return found;
        }
    }

    /** Verifies a FUNCTION; what it finds goes into that FUNCTION only when there is no fault. */
    private static final class Verifier {
        final int[] depths = new int[MOST_INSTRUCTIONS];
        final int[] rowsOnStack = new int[MOST_INSTRUCTIONS];
        final boolean[] waits = new boolean[MOST_INSTRUCTIONS];
        // None that waits has a number below this one.
        int leastWaiting;
        // What it works on is told anew for each FUNCTION.
        Program program;
        Function function;
        Fault fault;
        int firstPlace;
        int current;
        int depth;
        int rows;

        void verify(Program newProgram, int f, Fault newFault) {
            Function found = newProgram.at(f);
            if (found == null) {
                return;
            }
            program = newProgram;
            function = found;
            fault = newFault;
            firstPlace = f * FUNCTION_STEP;
            begin();
            // Each one waits at most once, so that as many turns as there are INSTRUCTIONS are enough.
            for (int turn = 0; turn < function.count && findLeastWaiting(); turn++) {
                lookAt(leastWaiting);
            }
            if (fault.kind == 0) {
                System.arraycopy(depths, 0, function.depths, 0, function.count);
                System.arraycopy(rowsOnStack, 0, function.rowsOnStack, 0, function.count);
            }
        }

        private void begin() {
            for (int i = 0; i < function.count; i++) {
                depths[i] = NONE;
                rowsOnStack[i] = 0;
                waits[i] = false;
            }
            leastWaiting = 0;
            comeTo(0, 0, 0);
        }

        /** False if none waits, or if there is a fault: then none is looked at any more. */
        private boolean findLeastWaiting() {
            while (leastWaiting < function.count && !waits[leastWaiting]) {
                leastWaiting++;
            }
            return leastWaiting < function.count && fault.kind == 0;
        }

        private void lookAt(int i) {
            waits[i] = false;
            current = i;
            depth = depths[i];
            rows = rowsOnStack[i];
            int op = function.ops[i];
            int behind = function.behinds[i];
            takeAndPut(op, behind);
            comeToHandlers();
            if (Kinds.goesToPlace(op)) {
                comeTo(behind, depth, rows);
            }
            if (Kinds.goesOnBehind(op)) {
                comeToNext();
            }
        }

        private void comeToHandlers() {
            for (int k = 0; k < function.handlerCount; k++) {
                Handler handler = function.handlers[k];
                if (handler.covers(current)) {
                    comeTo(handler.target, 1, 0);
                }
            }
        }

        private void comeToNext() {
            if (current + 1 < function.count) {
                comeTo(current + 1, depth, rows);
            } else {
                fault.tell(NONE_BEHIND, firstPlace + current);
            }
        }

        private void comeTo(int i, int newDepth, int newRows) {
            if (fault.kind != 0 || !function.has(i)) {
                return;
            }
            if (depths[i] == NONE) {
                depths[i] = newDepth;
                rowsOnStack[i] = newRows;
                waits[i] = true;
                leastWaiting = Math.min(leastWaiting, i);
            } else if (depths[i] != newDepth || rowsOnStack[i] != newRows) {
                fault.tell(TYPES_DIFFER, firstPlace + i);
            }
        }

        private void takeAndPut(int op, int behind) {
            switch (op) {
                case PUSH:
                    put(INT);
                    break;
                case POP:
                    take(ANY);
                    break;
                case DUP:
                    repeatTop();
                    break;
                case SWAP:
                    swapUpperTwo();
                    break;
                case LOAD:
                    put(function.typeOfLocal(behind));
                    break;
                case STORE:
                    take(function.typeOfLocal(behind));
                    break;
                case JUMP:
                    break;
                case IF:
                case IFNOT:
                case THROW:
                    take(INT);
                    break;
                case NEW:
                case GET:
                case PUT:
                case SIZE:
                    useRow(op);
                    break;
                case CALL:
                    callFunction(program.at(behind));
                    break;
                case HOST:
                    takeInts(behind % 4);
                    put(INT);
                    break;
                case RETURN:
                    takeResult();
                    break;
                case GUARD:
                    takeInts(behind % 4);
                    putInts(behind % 4);
                    break;
                default:
                    // All that are left, ADD to SAME, make one INT of two.
                    takeInts(2);
                    put(INT);
                    break;
            }
        }

        private void repeatTop() {
            int top = take(ANY);
            put(top);
            put(top);
        }

        private void swapUpperTwo() {
            int upper = take(ANY);
            int lower = take(ANY);
            put(upper);
            put(lower);
        }

        private void useRow(int op) {
            if (op == NEW) {
                take(INT);
                put(ROW);
                return;
            }
            if (op != SIZE) {
                take(INT);
            }
            if (op == PUT) {
                take(INT);
            }
            take(ROW);
            if (op != PUT) {
                put(INT);
            }
        }

        private void callFunction(Function called) {
            if (called == null) {
                return;
            }
            for (int l = called.params - 1; l >= 0; l--) {
                take(called.typeOfLocal(l));
            }
            if (called.result != 0) {
                put(called.result);
            }
        }

        private void takeResult() {
            if (function.result != 0) {
                take(function.result);
            }
        }

        private void takeInts(int n) {
            for (int k = 0; k < n; k++) {
                take(INT);
            }
        }

        private void putInts(int n) {
            for (int k = 0; k < n; k++) {
                put(INT);
            }
        }

        /** Takes the top, and answers its type; ANY if there is a fault. */
        private int take(int type) {
            int top = depth == 0 ? ANY : (rows >> (depth - 1) & 1) == 1 ? ROW : INT;
            if (top == ANY || type != ANY && type != top) {
                fault.tell(WRONG_TYPES, firstPlace + current);
                return ANY;
            }
            depth--;
            rows &= (1 << depth) - 1;
            return top;
        }

        private void put(int type) {
            if (depth >= MOST_ON_STACK) {
                fault.tell(STACK_FULL, firstPlace + current);
                return;
            }
            if (type == ROW) {
                rows |= 1 << depth;
            }
            depth++;
        }
    }
}
