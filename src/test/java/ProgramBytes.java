import java.io.ByteArrayOutputStream;

/** Puts the bytes of a program together, right or wrong, and gives them to a StackBytes. */
final class ProgramBytes {
    static final int PUSH = 0, POP = 1, DUP = 2, SWAP = 3, LOAD = 4, STORE = 5, ADD = 6, LESS = 16, SAME = 17;
    static final int JUMP = 18, IF = 19, IFNOT = 20, NEW = 21, GET = 22, PUT = 23, SIZE = 24, CALL = 25, HOST = 26;
    static final int RETURN = 27, THROW = 28, GUARD = 29;

    private final ByteArrayOutputStream out = new ByteArrayOutputStream();

    ProgramBytes(int functions) {
        one(71).one(70).one(1).one(functions);
    }

    ProgramBytes one(int b) {
        out.write(b);
        return this;
    }

    ProgramBytes two(int v) {
        return one(v >> 8).one(v);
    }

    ProgramBytes four(int v) {
        return two(v >> 16).two(v);
    }

    ProgramBytes head(int params, int locals, int rows, int result, int instructions) {
        return one(params).one(locals).two(rows).one(result).two(instructions);
    }

    static boolean hasBehind(int op) {
        return op == PUSH || op == LOAD || op == STORE || op >= JUMP && op <= IFNOT || op == CALL || op == HOST
            || op == GUARD;
    }

    ProgramBytes op(int op) {
        return one(op);
    }

    ProgramBytes op(int op, int behind) {
        one(op);
        switch (op) {
            case PUSH:
                return four(behind);
            case JUMP:
            case IF:
            case IFNOT:
                return two(behind);
            default:
                return one(behind);
        }
    }

    ProgramBytes handlers(int n) {
        return one(n);
    }

    ProgramBytes handlerForAny(int from, int to, int target) {
        return two(from).two(to).two(target).one(0);
    }

    ProgramBytes handlerFor(int from, int to, int target, int code) {
        return two(from).two(to).two(target).one(1).four(code);
    }

    byte[] bytes() {
        return out.toByteArray();
    }

    /** One function without params, and with no handlers: locals, rows, result and these, one byte each. */
    static byte[] oneFunction(int locals, int rows, int result, int instructions, int... codeBytes) {
        ProgramBytes made = new ProgramBytes(1).head(0, locals, rows, result, instructions);
        for (int b : codeBytes) {
            made.one(b);
        }
        return made.handlers(0).bytes();
    }

    /** These are the BYTES of x then. */
    static void load(StackBytes x, byte[] bytes) {
        x.cut(0);
        for (int k = 0; k < bytes.length; ) {
            int n = Math.min(8, bytes.length - k);
            long v = 0;
            for (int j = 0; j < n; j++) {
                v = v << 8 | (bytes[k + j] & 255);
            }
            x.give(v, n);
            k += n;
        }
    }
}
