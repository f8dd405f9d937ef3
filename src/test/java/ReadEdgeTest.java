import java.util.Arrays;

/** Sentences of the terms and of promises 5 and 6 that name an edge of the bytes: numbers, and faults 1 to 4. */
public final class ReadEdgeTest {
    private static final int NONE = Edge.NONE;
    private static final int[] WITH_LOCAL = {ProgramBytes.LOAD, ProgramBytes.STORE};
    private static final int[] WITH_PLACE = {ProgramBytes.JUMP, ProgramBytes.IF, ProgramBytes.IFNOT};
    private static final int[] WITH_SERVICE = {ProgramBytes.HOST, ProgramBytes.GUARD};

    public static void main(String[] args) {
        firstThree();
        functions();
        params();
        locals();
        rowBits();
        result();
        instructions();
        ops();
        pushed();
        localsBehind();
        placesBehind();
        functionsBehind();
        servicesBehind();
        handlers();
        handlerFrom();
        handlerTo();
        handlerTarget();
        handlerKind();
        handlerCode();
        highestFirst();
        endsEverywhere();
        endsInsideOfANumber();
        bytesLeft();
        theFirstFault();
        bytesBeforeVerified();
        Check.end();
    }

    /** What is read so is written so. */
    private static StackBytes right(String sentence, byte[] bytes) {
        StackBytes x = Edge.right(sentence, bytes);
        Check.due(sentence + ": written", x.write(), bytes.length);
        int same = 0;
        for (int k = 0; k < bytes.length && k < 200; k++) {
            same += x.byteAt(k, false) == (bytes[k] & 255) ? 1 : 0;
        }
        Check.due(sentence + ": the same bytes", same, Math.min(200, bytes.length));
        return x;
    }

    private static void wrong(String sentence, byte[] bytes, int place) {
        Edge.read(sentence, bytes, 3, place);
    }

    private static void firstThree() {
        String s = "Fault 2: one of the first three is another one (its place)";
        for (int k = 0; k < 3; k++) {
            for (int b : new int[] {0, 2, 69, 72, 199, 255}) {
                Edge.read(s, Edge.with(Edge.RETURNS, k, b), 2, k);
                Edge.read(s + ", and no more", Arrays.copyOf(Edge.with(Edge.RETURNS, k, b), k + 1), 2, k);
            }
        }
        Edge.read(s + ", the first of two", Edge.with(Edge.RETURNS, 1, 71, 70), 2, 1);
        Edge.read(s + ", the first of three", Edge.with(Edge.RETURNS, 0, 70, 71, 0), 2, 0);
    }

    private static byte[] returning(int functions) {
        ProgramBytes made = new ProgramBytes(functions);
        for (int f = 0; f < functions; f++) {
            made.head(0, 0, 0, 0, 1).op(ProgramBytes.RETURN).handlers(0);
        }
        return made.bytes();
    }

    private static void functions() {
        for (int n = 1; n <= 12; n++) {
            StackBytes x = right("how many FUNCTIONS, 1 .. 12: " + n, returning(n));
            Check.due("so many FUNCTIONS: " + n, x.look(0), n);
            Check.due("the last one", x.function(n - 1, 4), 1);
            Check.due("none behind it", x.function(n, 4), NONE);
        }
        wrong("how many FUNCTIONS: 0", Edge.with(Edge.RETURNS, 3, 0), 3);
        wrong("how many FUNCTIONS: 0, and no more", new ProgramBytes(0).bytes(), 3);
        for (int n : new int[] {13, 16, 128, 255}) {
            wrong("how many FUNCTIONS: " + n, returning(n), 3);
        }
    }

    /** FUNCTION 0, and FUNCTION 1 with this head, which begins at 13. */
    private static byte[] second(int params, int locals, int rows, int result) {
        ProgramBytes made = new ProgramBytes(2).head(0, 0, 0, 0, 1).op(ProgramBytes.RETURN).handlers(0)
            .head(params, locals, rows, result, 2);
        if (result == 2) {
            made.op(ProgramBytes.HOST, 0).op(ProgramBytes.NEW);
            return Edge.with(made.op(ProgramBytes.RETURN).handlers(0).bytes(), 19, 3);
        }
        return made.op(ProgramBytes.HOST, 0).op(ProgramBytes.RETURN).handlers(0).bytes();
    }

    private static void params() {
        for (int n : new int[] {1, 2, 4, 5, 255}) {
            wrong("PARAMS 0 for FUNCTION 0: " + n, Edge.with(Edge.RETURNS, 4, n, 12), 4);
        }
        for (int n = 0; n <= 4; n++) {
            StackBytes x = right("PARAMS, 0 .. 4: " + n, second(n, 12, 0, 0));
            Check.due("so many PARAMS", x.function(1, 0), n);
        }
        for (int n : new int[] {5, 6, 12, 128, 255}) {
            wrong("PARAMS, 0 .. 4: " + n, second(n, 12, 0, 0), 13);
        }
    }

    private static void locals() {
        for (int params = 0; params <= 4; params++) {
            for (int n = 0; n <= 14; n++) {
                String s = "LOCALS, PARAMS .. 12: " + n + " with " + params;
                byte[] bytes = second(params, n, 0, 0);
                if (n < params || n > 12) {
                    wrong(s, bytes, 14);
                } else {
                    Check.due("so many LOCALS", right(s, bytes).function(1, 1), n);
                }
            }
            wrong("LOCALS, PARAMS .. 12: 255", second(params, 255, 0, 0), 14);
        }
        right("LOCALS of FUNCTION 0: 12", ProgramBytes.oneFunction(12, 0, 0, 1, 27));
        wrong("LOCALS of FUNCTION 0: 13", ProgramBytes.oneFunction(13, 0, 0, 1, 27), 5);
    }

    private static void rowBits() {
        for (int locals = 0; locals <= 12; locals++) {
            for (int l = 0; l < 16; l++) {
                String s = "bit l is 1 if LOCAL l is a ROW (0 above): " + l + " of " + locals;
                byte[] bytes = ProgramBytes.oneFunction(locals, 1 << l, 0, 1, 27);
                if (l >= locals) {
                    wrong(s, bytes, 6);
                } else {
                    Check.due("ROWS as bits", right(s, bytes).function(0, 2), 1 << l);
                }
            }
            int all = (1 << locals) - 1;
            Check.due("all are ROWS", right("all are ROWS", second(0, locals, all, 0)).function(1, 2), all);
            wrong("all and one above", second(0, locals, all * 2 + 1, 0), 15);
        }
        for (int l = 0; l < 3; l++) {
            StackBytes x = right("else it is an INT", ProgramBytes.oneFunction(3, 2, 0, 2, 4, l, 27));
            Check.due("else it is an INT: " + l, x.code(0, 1, 3), l == 1 ? 1 : 0);
        }
    }

    private static void result() {
        for (int result = 0; result <= 2; result++) {
            StackBytes x = right("RESULT: 0 none, 1 INT, 2 ROW: " + result, second(0, 0, 0, result));
            Check.due("RESULT", x.function(1, 3), result);
        }
        for (int result : new int[] {3, 4, 128, 255}) {
            wrong("RESULT: 0 none, 1 INT, 2 ROW: " + result, second(0, 0, 0, result), 17);
            wrong("RESULT of FUNCTION 0: " + result, ProgramBytes.oneFunction(0, 0, result, 2, 26, 0, 27), 8);
        }
        for (int result = 0; result <= 1; result++) {
            StackBytes x = right("RESULT of FUNCTION 0", ProgramBytes.oneFunction(0, 0, result, 2, 26, 0, 27));
            Check.due("RESULT of FUNCTION 0", x.function(0, 3), result);
        }
        wrong("ROW (not of FUNCTION 0)", ProgramBytes.oneFunction(1, 1, 2, 2, 4, 0, 27), 8);
    }

    private static byte[] pops(int count) {
        int[] ops = new int[count];
        Arrays.fill(ops, ProgramBytes.POP);
        if (count > 0) {
            ops[0] = ProgramBytes.RETURN;
        }
        return ProgramBytes.oneFunction(0, 0, 0, count, ops);
    }

    private static void instructions() {
        for (int n : new int[] {1, 2, 255, 256, 257, 399, 400}) {
            StackBytes x = right("how many INSTRUCTIONS, 1 .. 400: " + n, pops(n));
            Check.due("so many INSTRUCTIONS", x.function(0, 4), n);
            Check.due("INSTRUCTIONS in all", x.look(1), n);
            Check.due("the last one", x.code(0, n - 1, 0), n == 1 ? 27 : 1);
        }
        for (int n : new int[] {0, 401, 402, 512, 656}) {
            wrong("how many INSTRUCTIONS, 1 .. 400: " + n, pops(n), 9);
        }
        wrong("how many INSTRUCTIONS: 65535", Edge.with(pops(300), 9, 255, 255), 9);
        wrong("how many INSTRUCTIONS: 32769", Edge.with(pops(300), 9, 128, 1), 9);
    }

    private static void ops() {
        for (int op = 0; op < 256; op++) {
            ProgramBytes made = new ProgramBytes(1).head(0, 1, 0, 0, 2).op(ProgramBytes.RETURN);
            if (ProgramBytes.hasBehind(op)) {
                made.op(op, 0);
            } else {
                made.op(op);
            }
            byte[] bytes = made.handlers(0).bytes();
            if (op <= 29) {
                Check.due("the byte of an INSTRUCTION", right("INSTRUCTION " + op, bytes).code(0, 1, 0), op);
            } else {
                wrong("an INSTRUCTION that can not be there: " + op, bytes, 12);
            }
        }
    }

    /** RETURN, and behind it, never come to, op with this behind it; it stands in FUNCTION 0 at 12. */
    private static byte[] neverComeTo(int functions, int locals, int instructions, int op, int behind) {
        ProgramBytes made = new ProgramBytes(functions).head(0, locals, 0, 0, instructions)
            .op(ProgramBytes.RETURN).op(op, behind);
        for (int i = 2; i < instructions; i++) {
            made.op(ProgramBytes.POP);
        }
        made.handlers(0);
        for (int f = 1; f < functions; f++) {
            made.head(0, 0, 0, 0, 1).op(ProgramBytes.RETURN).handlers(0);
        }
        return made.bytes();
    }

    private static void pushed() {
        for (int k : new int[] {0, 1, -1, 255, 256, 65536, 0x01020304, 0xff00ff00, Edge.MIN, Edge.MAX}) {
            StackBytes x = right("PUSH k (four bytes): " + k, neverComeTo(1, 0, 2, ProgramBytes.PUSH, k));
            Check.due("k", x.code(0, 1, 1), k);
        }
    }

    private static void behind(String sentence, byte[] bytes, boolean can, int behind) {
        if (can) {
            Check.due(sentence + ": what stands behind", right(sentence, bytes).code(0, 1, 1), behind);
        } else {
            wrong(sentence, bytes, 13);
        }
    }

    private static void localsBehind() {
        for (int op : WITH_LOCAL) {
            for (int locals = 0; locals <= 12; locals++) {
                for (int l : new int[] {0, 1, locals - 1, locals, locals + 1, 11, 12, 255}) {
                    if (l >= 0) {
                        behind("a LOCAL: op " + op + " of " + l + " with " + locals,
                            neverComeTo(1, locals, 2, op, l), l < locals, l);
                    }
                }
            }
        }
    }

    private static void placesBehind() {
        for (int op : WITH_PLACE) {
            for (int count : new int[] {2, 3, 256, 257, 300, 400}) {
                for (int t : new int[] {0, 1, count - 1, count, count + 1, 255, 256, 399, 400, 512, 65535}) {
                    behind("t below that of INSTRUCTIONS: op " + op + " to " + t + " of " + count,
                        neverComeTo(1, 0, count, op, t), t < count, t);
                }
            }
        }
    }

    private static void functionsBehind() {
        for (int functions = 1; functions <= 12; functions++) {
            for (int f : new int[] {0, functions - 1, functions, functions + 1, 11, 12, 255}) {
                behind("f below the number of FUNCTIONS: " + f + " of " + functions,
                    neverComeTo(functions, 0, 2, ProgramBytes.CALL, f), f < functions, f);
            }
        }
    }

    private static void servicesBehind() {
        for (int op : WITH_SERVICE) {
            for (int c : new int[] {0, 1, 14, 15, 16, 17, 128, 255}) {
                behind("c (a byte, 0 .. 15): op " + op + " with " + c, neverComeTo(1, 0, 2, op, c), c <= 15, c);
            }
        }
    }

    /** As many INSTRUCTIONS, of which the first one RETURNS; what is behind them begins at 11 + count. */
    private static ProgramBytes beforeHandlers(int count) {
        ProgramBytes made = new ProgramBytes(1).head(0, 0, 0, 0, count).op(ProgramBytes.RETURN);
        for (int i = 1; i < count; i++) {
            made.op(ProgramBytes.RETURN);
        }
        return made;
    }

    private static void handlers() {
        for (int n : new int[] {0, 1, 5, 6, 7, 8, 255}) {
            ProgramBytes made = beforeHandlers(2).handlers(n);
            for (int k = 0; k < n; k++) {
                made.handlerForAny(1, 2, k == 5 ? 0 : 1);
            }
            if (n <= 6) {
                StackBytes x = right("how many HANDLERS, 0 .. 6: " + n, made.bytes());
                Check.due("so many HANDLERS", x.function(0, 5), n);
                Check.due("the last one", x.handler(0, n - 1, 0), n == 0 ? 0 : 1);
                Check.due("none behind", x.handler(0, n, 0), 0);
            } else {
                wrong("how many HANDLERS, 0 .. 6: " + n, made.bytes(), 13);
            }
        }
    }

    private static byte[] oneHandler(int count, int from, int to, int target) {
        return beforeHandlers(count).handlers(1).handlerForAny(from, to, target).bytes();
    }

    /** Never come to, but for INSTRUCTION 0; one of FROM, TO and TARGET is looked at. */
    private static void range(String sentence, int count, int[] handler, int what, boolean can) {
        byte[] bytes = oneHandler(count, handler[0], handler[1], handler[2]);
        if (can) {
            StackBytes x = right(sentence + Arrays.toString(handler), bytes);
            for (int k = 0; k < 3; k++) {
                Check.due(sentence + ": " + k, x.handler(0, 0, k), handler[k]);
            }
        } else {
            wrong(sentence + Arrays.toString(handler) + " of " + count, bytes, 11 + count + 1 + 2 * what);
        }
    }

    private static void handlerFrom() {
        String s = "FROM below the number of INSTRUCTIONS: ";
        for (int count : new int[] {2, 3, 256, 300, 400}) {
            range(s, count, new int[] {1, count, 1}, 0, true);
            range(s, count, new int[] {count - 1, count, 1}, 0, true);
            for (int from : new int[] {count, count + 1, 512, 65534, 65535}) {
                range(s, count, new int[] {from, from + 1, 1}, 0, false);
            }
        }
        range("FROM can be 0: ", 2, new int[] {0, 1, 1}, 0, true);
        wrong("FROM below 1", oneHandler(1, 1, 1, 0), 13);
    }

    private static void handlerTo() {
        for (int count : new int[] {3, 257, 400}) {
            for (int from : new int[] {1, count - 2, count - 1}) {
                for (int to : new int[] {0, from - 1, from, from + 1, count - 1, count, count + 1, 512, 65535}) {
                    boolean can = to > from && to <= count;
                    range("TO above FROM and not above that number: ", count, new int[] {from, to, 1}, 1, can);
                }
            }
        }
    }

    private static void handlerTarget() {
        for (int count : new int[] {3, 256, 400}) {
            for (int target : new int[] {0, 1, count - 1, count, count + 1, 512, 65535}) {
                range("TARGET below it: ", count, new int[] {1, 2, target}, 2, target < count);
            }
        }
    }

    private static void handlerKind() {
        for (int kind = 0; kind < 256; kind++) {
            ProgramBytes made = beforeHandlers(2).handlers(1).two(1).two(2).two(1).one(kind);
            if (kind == 0) {
                StackBytes x = right("0 for any code", made.bytes());
                Check.due("1 if it is for any code", x.handler(0, 0, 3), 1);
                Check.due("its code (0 for any)", x.handler(0, 0, 4), 0);
            } else if (kind == 1) {
                StackBytes x = right("or 1 and four bytes, the code", made.four(9).bytes());
                Check.due("else 0", x.handler(0, 0, 3), 0);
                Check.due("its code", x.handler(0, 0, 4), 9);
            } else {
                wrong("neither 0 nor 1: " + kind, made.four(9).bytes(), 20);
            }
        }
    }

    private static void handlerCode() {
        for (int code : new int[] {0, 1, -1, 255, 256, 0x01020304, Edge.MIN, Edge.MAX}) {
            StackBytes x = right("1 and four bytes, the code: " + code,
                beforeHandlers(2).handlers(1).handlerFor(1, 2, 1, code).bytes());
            Check.due("the code", x.handler(0, 0, 4), code);
            Check.due("not for any, even if it is 0", x.handler(0, 0, 3), 0);
        }
        // What one place held before must not be seen in a HANDLER for any code.
        StackBytes x = right("a code", beforeHandlers(2).handlers(1).handlerFor(1, 2, 1, 77).bytes());
        Edge.readAgain(x, "another one", beforeHandlers(2).handlers(1).handlerFor(1, 2, 1, 78).bytes(), 0, NONE);
        Edge.readAgain(x, "for any", oneHandler(2, 1, 2, 1), 0, NONE);
        Check.due("its code (0 for any)", x.handler(0, 0, 4), 0);
        Edge.readAgain(x, "for any, again", oneHandler(2, 1, 2, 1), 0, NONE);
        Check.due("its code (0 for any), again", x.handler(0, 0, 4), 0);
    }

    private static void highestFirst() {
        String s = "Numbers of two and four bytes have the highest first";
        ProgramBytes made = new ProgramBytes(1).one(0).one(12).one(0x09).one(0x01).one(0).one(0x01).one(0x2c);
        made.op(ProgramBytes.RETURN).one(ProgramBytes.PUSH).one(1).one(2).one(3).one(4);
        made.one(ProgramBytes.JUMP).one(1).one(2);
        for (int i = 3; i < 300; i++) {
            made.op(ProgramBytes.POP);
        }
        made.handlers(1).one(1).one(3).one(1).one(5).one(1).one(4).one(1).one(8).one(7).one(6).one(5);
        StackBytes x = right(s, made.bytes());
        Check.due(s + ": ROWS", x.function(0, 2), 0x0901);
        Check.due(s + ": INSTRUCTIONS", x.function(0, 4), 300);
        Check.due(s + ": k", x.code(0, 1, 1), 0x01020304);
        Check.due(s + ": t", x.code(0, 2, 1), 0x0102);
        Check.due(s + ": FROM", x.handler(0, 0, 0), 0x0103);
        Check.due(s + ": TO", x.handler(0, 0, 1), 0x0105);
        Check.due(s + ": TARGET", x.handler(0, 0, 2), 0x0104);
        Check.due(s + ": the code", x.handler(0, 0, 4), 0x08070605);
    }

    /** Each kind of a number is there; what follows RETURN is never come to. */
    private static byte[] allNumbers() {
        ProgramBytes made = new ProgramBytes(2);
        for (int f = 0; f < 2; f++) {
            made.head(f * 3, 5, 9, 0, 31).op(ProgramBytes.RETURN);
            for (int op = 0; op < 30; op++) {
                if (ProgramBytes.hasBehind(op)) {
                    made.op(op, 1);
                } else {
                    made.op(op);
                }
            }
            made.handlers(2).handlerForAny(1, 31, 30).handlerFor(2, 3, 1, 0x10203);
        }
        return made.bytes();
    }

    private static void endsEverywhere() {
        byte[] all = allNumbers();
        right("all numbers", all);
        for (int n = 0; n < all.length; n++) {
            Edge.read("Fault 1: they end where one is to be read (how many there are)", Arrays.copyOf(all, n), 1, n);
        }
    }

    private static void endsInsideOfANumber() {
        String s = "Fault 1: the end is inside of a number that could not be there in any case";
        byte[] handler = oneHandler(2, 1, 2, 1);
        byte[] jump = neverComeTo(1, 0, 2, ProgramBytes.JUMP, 0);
        Edge.read(s + ": ROWS", Arrays.copyOf(Edge.with(Edge.RETURNS, 6, 255), 7), 1, 7);
        Edge.read(s + ": INSTRUCTIONS", Arrays.copyOf(Edge.with(Edge.RETURNS, 9, 255), 10), 1, 10);
        Edge.read(s + ": t", Arrays.copyOf(Edge.with(jump, 13, 255), 14), 1, 14);
        Edge.read(s + ": FROM", Arrays.copyOf(Edge.with(handler, 14, 255), 15), 1, 15);
        Edge.read(s + ": TO", Arrays.copyOf(Edge.with(handler, 16, 255), 17), 1, 17);
        Edge.read(s + ": TARGET", Arrays.copyOf(Edge.with(handler, 18, 255), 19), 1, 19);
    }

    private static void bytesLeft() {
        String s = "Fault 4: bytes are left behind (the place of the first one)";
        Edge.read(s + ": one", Edge.longer(Edge.RETURNS, 0), 4, 13);
        Edge.read(s + ": two", Edge.longer(Edge.RETURNS, 71, 70), 4, 13);
        Edge.read(s + ": a whole program", Edge.longer(Edge.RETURNS, 71, 70, 1, 1, 0, 0, 0, 0, 0, 0, 1, 27, 0), 4, 13);
        byte[] handler = oneHandler(2, 1, 2, 1);
        Edge.read(s + ": behind a HANDLER", Edge.longer(handler, 0, 0, 0, 0), 4, handler.length);
        byte[] all = allNumbers();
        Edge.read(s + ": behind two FUNCTIONS", Edge.longer(all, 255), 4, all.length);
    }

    private static void theFirstFault() {
        String s = "the first one, from byte to byte: ";
        byte[] all = allNumbers();
        Edge.read(s + "a start before FUNCTIONS", Edge.with(all, 2, 2, 0), 2, 2);
        Edge.read(s + "FUNCTIONS before PARAMS", Edge.with(all, 3, 0, 9), 3, 3);
        Edge.read(s + "PARAMS before LOCALS", Edge.with(all, 4, 9, 99), 3, 4);
        Edge.read(s + "LOCALS before ROWS", Edge.with(all, 5, 99, 255), 3, 5);
        Edge.read(s + "ROWS before RESULT", Edge.with(all, 6, 255, 255, 9), 3, 6);
        Edge.read(s + "RESULT before INSTRUCTIONS", Edge.with(all, 8, 9, 0, 0), 3, 8);
        Edge.read(s + "INSTRUCTIONS before the first", Edge.with(all, 9, 0, 0, 99), 3, 9);
        Edge.read(s + "one INSTRUCTION before the next", Edge.with(all, 11, 99, 98), 3, 11);
        Edge.read(s + "what is behind before the next", neverComeTo(1, 1, 3, ProgramBytes.LOAD, 1), 3, 13);
        byte[] handler = beforeHandlers(2).handlers(1).two(2).two(1).two(2).one(2).bytes();
        Edge.read(s + "FROM before TO", handler, 3, 14);
        Edge.read(s + "TO before TARGET", Edge.with(handler, 14, 0, 1), 3, 16);
        Edge.read(s + "TARGET before its kind", Edge.with(handler, 14, 0, 1, 0, 2), 3, 18);
        Edge.read(s + "a number before the end", Arrays.copyOf(Edge.with(all, 4, 9), 5), 3, 4);
        Edge.read(s + "a number before what is left", Edge.longer(Edge.with(Edge.RETURNS, 12, 7), 1), 3, 12);
        int firstHandlers = all.length / 2 + 2 - 19;
        Edge.read(s + "FUNCTION 0 before FUNCTION 1", Edge.with(Edge.with(all, all.length - 4, 9), firstHandlers, 7),
            3, firstHandlers);
    }

    private static void bytesBeforeVerified() {
        String s = "Then it is VERIFIED: ";
        byte[] popsNone = ProgramBytes.oneFunction(0, 0, 0, 1, ProgramBytes.POP);
        Edge.read(s + "5 alone", popsNone, 5, 0);
        Edge.read(s + "what is left comes first", Edge.longer(popsNone, 0), 4, 13);
        Edge.read(s + "the end comes first", Arrays.copyOf(popsNone, 12), 1, 12);
        byte[] two = new ProgramBytes(2).head(0, 0, 0, 0, 1).op(ProgramBytes.POP).handlers(0)
            .head(0, 0, 0, 0, 1).op(30).handlers(0).bytes();
        Edge.read(s + "a number of FUNCTION 1 comes before FUNCTION 0's types", two, 3, 20);
    }
}
