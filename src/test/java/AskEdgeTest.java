/** Sentences of promises 9, 10, 11 and 13 that name an edge. */
public final class AskEdgeTest {
    private static final int NONE = Edge.NONE;
    private static final int[] ODD = {-1, -2, Edge.MIN, Edge.MAX, 255, 256, 65536};

    public static void main(String[] args) {
        codeOfEach();
        codeNeverComeTo();
        codeGoesThere();
        codeOfOnlyOne();
        nothingOfALongerOne();
        codeOfNone();
        codeOfNoSuchWhat();
        functionOfEach();
        functionComeTo();
        functionMost();
        functionOfNone();
        handlerOfEach();
        handlerOfNone();
        lookOfEach();
        lookFault();
        lookOfNone();
        Check.end();
    }

    /**
     * FUNCTION 0 has four INSTRUCTIONS of which 2 is never come to, and two HANDLERS;
     * FUNCTION 1 has two INSTRUCTIONS, and no HANDLER.
     */
    private static StackBytes two() {
        return Edge.right("two", new ProgramBytes(2).head(0, 3, 5, 1, 4)
            .op(ProgramBytes.PUSH, -7).op(ProgramBytes.JUMP, 3).op(ProgramBytes.HOST, 9).op(ProgramBytes.RETURN)
            .handlers(2).handlerFor(1, 3, 3, -8).handlerForAny(0, 1, 3)
            .head(2, 2, 1, 2, 2).op(ProgramBytes.LOAD, 0).op(ProgramBytes.RETURN).handlers(0).bytes());
    }

    private static void codeOfEach() {
        StackBytes x = two();
        int[][] zero = {{0, -7, 0, 0, 0}, {18, 3, 1, 0, 0}, {26, 9, NONE, 0, 0}, {27, 0, 1, 0, 1}};
        int[][] one = {{4, 0, 0, 0, 0}, {27, 0, 1, 1, 0}};
        for (int what = 0; what < 5; what++) {
            for (int i = 0; i < 4; i++) {
                Check.due("9: what " + what + " of 0, " + i, x.code(0, i, what), zero[i][what]);
            }
            for (int i = 0; i < 2; i++) {
                Check.due("9: what " + what + " of 1, " + i, x.code(1, i, what), one[i][what]);
            }
        }
        for (int op = 0; op < 30; op++) {
            if (!ProgramBytes.hasBehind(op)) {
                StackBytes y = Edge.right("9", ProgramBytes.oneFunction(0, 0, 0, 2, ProgramBytes.RETURN, op));
                Check.due("9: what stands behind (0 without that): " + op, y.code(0, 1, 1), 0);
            }
        }
    }

    private static void codeNeverComeTo() {
        StackBytes x = Edge.right("9", Edge.behindStack("RR", 3, ProgramBytes.POP, ProgramBytes.POP, 27));
        Check.due("9: two ROWS", x.code(0, 2, 3), 3);
        x.change(0, 0, ProgramBytes.RETURN, 0);
        for (int i = 1; i < 5; i++) {
            Check.due("9: NONE if it is never come to: " + i, x.code(0, i, 2), NONE);
            Check.due("9: 0 likewise: " + i, x.code(0, i, 3), 0);
        }
        Check.due("9: op all the same", x.code(0, 1, 0), ProgramBytes.LOAD);
        Check.due("9: what stands behind all the same", x.code(0, 1, 1), 1);
        Check.due("9: INSTRUCTION 0 is come to with nothing", x.code(0, 0, 2), 0);
    }

    private static void codeGoesThere() {
        String s = "9: 1 if a jump or a HANDLER goes to it, else 0: ";
        for (int op = ProgramBytes.JUMP; op <= ProgramBytes.IFNOT; op++) {
            for (int t = 0; t < 4; t++) {
                StackBytes x = Edge.right(s, new ProgramBytes(1).head(0, 0, 0, 0, 4).op(ProgramBytes.RETURN)
                    .op(op, t).op(ProgramBytes.PUSH, 3).op(ProgramBytes.GUARD, 2).handlers(0).bytes());
                for (int i = 0; i < 4; i++) {
                    Check.due(s + "op " + op + " to " + t + ": " + i, x.code(0, i, 4), i == t ? 1 : 0);
                }
            }
        }
        for (int target = 0; target < 4; target++) {
            StackBytes x = Edge.right(s, new ProgramBytes(1).head(0, 2, 0, 0, 4).op(ProgramBytes.RETURN)
                .op(ProgramBytes.LOAD, 1).op(ProgramBytes.HOST, 3).op(ProgramBytes.CALL, 0)
                .handlers(2).handlerForAny(1, 3, target).handlerFor(2, 3, 1, 0).bytes());
            for (int i = 0; i < 4; i++) {
                Check.due(s + "a HANDLER to " + target + ": " + i, x.code(0, i, 4), i == target || i == 1 ? 1 : 0);
            }
        }
        StackBytes x = two();
        Check.due(s + "not in another FUNCTION", x.code(1, 1, 4), 0);
    }

    private static void codeOfOnlyOne() {
        StackBytes x = new StackBytes();
        Check.due("9: no jump goes to it", x.code(0, 0, 4), 0);
        x.change(0, 0, ProgramBytes.JUMP, 0);
        Check.due("9: 1 if a jump goes to it: from itself", x.code(0, 0, 4), 1);
        StackBytes y = Edge.right("9", Edge.behindStack("", 2, ProgramBytes.JUMP, 0, 1, ProgramBytes.RETURN));
        Check.due("9: 1 if a jump goes to it: from INSTRUCTION 0", y.code(0, 1, 4), 1);
        Check.due("9: else 0", y.code(0, 0, 4), 0);
    }

    /** Jumps, depths and HANDLERS of a longer PROGRAM, read before, are not seen in a shorter one. */
    private static void nothingOfALongerOne() {
        byte[] longer = new ProgramBytes(1).head(0, 0, 0, 0, 4).op(ProgramBytes.GUARD, 0).op(ProgramBytes.HOST, 0)
            .op(ProgramBytes.IF, 0).op(ProgramBytes.RETURN).handlers(1).handlerForAny(3, 4, 2).bytes();
        StackBytes x = Edge.right("longer", longer);
        Edge.readAgain(x, "longer, again", longer, 0, NONE);
        Edge.readAgain(x, "shorter", ProgramBytes.oneFunction(0, 0, 0, 2, 29, 0, 27), 0, NONE);
        Check.due("9: no jump from behind the end", x.code(0, 0, 4), 0);
        Check.due("9: no HANDLER of before", x.code(0, 1, 4), 0);
        Check.due("10: the two are come to", x.function(0, 6), 2);
        Check.due("10: nothing is on the STACK", x.function(0, 7), 0);
        Check.due("13: INSTRUCTIONS in all", x.look(1), 2);
    }

    private static void codeOfNone() {
        StackBytes x = two();
        for (int what = 0; what < 5; what++) {
            Check.due("9: 0 if there is none such: i", x.code(0, 4, what), 0);
            Check.due("9: 0 if there is none such: i of 1", x.code(1, 2, what), 0);
            Check.due("9: 0 if there is none such: i of 1, though 0 has it", x.code(1, 3, what), 0);
            Check.due("9: 0 if there is none such: FUNCTION", x.code(2, 0, what), 0);
            for (int odd : ODD) {
                Check.due("9: 0 if there is none such: i " + odd, x.code(0, odd, what), 0);
                Check.due("9: 0 if there is none such: FUNCTION " + odd, x.code(odd, 0, what), 0);
            }
            Check.due("9: 0 if there is none such: i 400", x.code(0, 400, what), 0);
            Check.due("9: 0 if there is none such: FUNCTION 12", x.code(12, 0, what), 0);
        }
        // What a longer PROGRAM has held is not there any more.
        Edge.readAgain(x, "9", Edge.RETURNS, 0, NONE);
        Edge.readAgain(x, "9", Edge.RETURNS, 0, NONE);
        for (int what = 0; what < 5; what++) {
            Check.due("9: none such any more: i", x.code(0, 1, what), 0);
            Check.due("9: none such any more: FUNCTION", x.code(1, 1, what), 0);
        }
    }

    private static void codeOfNoSuchWhat() {
        StackBytes x = two();
        for (int i = 0; i < 4; i++) {
            Check.due("9: no such what: 5", x.code(0, i, 5), 0);
            for (int odd : ODD) {
                Check.due("9: no such what: " + odd, x.code(0, i, odd), 0);
            }
        }
    }

    private static void functionOfEach() {
        StackBytes x = two();
        int[][] due = {{0, 3, 5, 1, 4, 2, 3, 1}, {2, 2, 1, 2, 2, 0, 2, 1}};
        for (int f = 0; f < 2; f++) {
            for (int what = 0; what < 8; what++) {
                Check.due("10: what " + what + " of " + f, x.function(f, what), due[f][what]);
            }
        }
    }

    private static void functionComeTo() {
        for (int end = 0; end < 5; end++) {
            ProgramBytes made = new ProgramBytes(1).head(0, 0, 0, 0, 5);
            for (int i = 0; i < 5; i++) {
                made.one(i == end ? ProgramBytes.RETURN : ProgramBytes.GUARD);
                if (i != end) {
                    made.one(0);
                }
            }
            StackBytes x = Edge.right("10", made.handlers(0).bytes());
            Check.due("10: INSTRUCTIONS that are come to", x.function(0, 6), end + 1);
            Check.due("10: INSTRUCTIONS", x.function(0, 4), 5);
        }
    }

    private static void functionMost() {
        String types = "RIRIRIRIRIRIRIRI";
        for (int n = 0; n <= 16; n++) {
            StackBytes x = Edge.right("10", Edge.behindStack(types.substring(0, n), 1, ProgramBytes.RETURN));
            Check.due("10: the most on the STACK ahead of one of these", x.function(0, 7), n);
        }
        // Two are there behind DUP, but ahead of none.
        StackBytes x = Edge.right("10", new ProgramBytes(1).head(0, 0, 0, 1, 3).op(ProgramBytes.HOST, 0)
            .op(ProgramBytes.POP).op(ProgramBytes.JUMP, 0).handlers(0).bytes());
        Check.due("10: the most, not the last", x.function(0, 7), 1);
        x.change(0, 0, ProgramBytes.JUMP, 2);
        Check.due("10: of these that are come to alone", x.function(0, 7), 0);
        Check.due("10: two are come to", x.function(0, 6), 2);
    }

    private static void functionOfNone() {
        StackBytes x = two();
        for (int what = 0; what < 8; what++) {
            Check.due("10: NONE if there is none such: 2", x.function(2, what), NONE);
            Check.due("10: NONE if there is none such: 12", x.function(12, what), NONE);
            for (int odd : ODD) {
                Check.due("10: NONE if there is none such: " + odd, x.function(odd, what), NONE);
            }
        }
        for (int f = 0; f < 2; f++) {
            Check.due("10: NONE if there is no such what: 8", x.function(f, 8), NONE);
            for (int odd : ODD) {
                Check.due("10: NONE if there is no such what: " + odd, x.function(f, odd), NONE);
            }
        }
        Edge.readAgain(x, "10", Edge.RETURNS, 0, NONE);
        Check.due("10: none such any more", x.function(1, 0), NONE);
        Edge.readAgain(x, "10", Edge.RETURNS, 0, NONE);
        Check.due("10: none such any more, again", x.function(1, 0), NONE);
    }

    private static void handlerOfEach() {
        StackBytes x = two();
        int[][] due = {{1, 3, 3, 0, -8}, {0, 1, 3, 1, 0}};
        for (int k = 0; k < 2; k++) {
            for (int what = 0; what < 5; what++) {
                Check.due("11: what " + what + " of " + k, x.handler(0, k, what), due[k][what]);
            }
        }
    }

    private static void handlerOfNone() {
        StackBytes x = two();
        for (int what = 0; what < 5; what++) {
            Check.due("11: 0 if there is none such: k", x.handler(0, 2, what), 0);
            Check.due("11: 0 if there is none such: k 6", x.handler(0, 6, what), 0);
            Check.due("11: 0 if there is none such: of 1", x.handler(1, 0, what), 0);
            Check.due("11: 0 if there is none such: FUNCTION", x.handler(2, 0, what), 0);
            Check.due("11: 0 if there is none such: FUNCTION 12", x.handler(12, 0, what), 0);
            for (int odd : ODD) {
                Check.due("11: 0 if there is none such: k " + odd, x.handler(0, odd, what), 0);
                Check.due("11: 0 if there is none such: FUNCTION " + odd, x.handler(odd, 0, what), 0);
            }
        }
        for (int k = 0; k < 2; k++) {
            Check.due("11: 0 if there is no such what: 5", x.handler(0, k, 5), 0);
            for (int odd : ODD) {
                Check.due("11: 0 if there is no such what: " + odd, x.handler(0, k, odd), 0);
            }
        }
        Edge.readAgain(x, "11", Edge.RETURNS, 0, NONE);
        Edge.readAgain(x, "11", Edge.RETURNS, 0, NONE);
        for (int what = 0; what < 5; what++) {
            Check.due("11: none such any more", x.handler(0, 0, what), 0);
        }
    }

    private static void lookOfEach() {
        StackBytes x = two();
        x.give(0, 3);
        Check.due("13: FUNCTIONS", x.look(0), 2);
        Check.due("13: INSTRUCTIONS in all", x.look(1), 6);
        Check.due("13: WRITTEN ones, none yet", x.look(3), 0);
        int written = x.write();
        Check.due("13: BYTES", x.look(2), written + 3);
        Check.due("13: WRITTEN ones", x.look(3), written);
        ProgramBytes made = new ProgramBytes(12);
        for (int f = 0; f < 12; f++) {
            made.head(0, 0, 0, 0, 300).op(ProgramBytes.RETURN);
            for (int i = 1; i < 300; i++) {
                made.op(ProgramBytes.RETURN);
            }
            made.handlers(0);
        }
        Check.due("13: INSTRUCTIONS in all of twelve", Edge.right("13", made.bytes()).look(1), 3600);
    }

    private static void lookFault() {
        StackBytes x = new StackBytes();
        Check.due("13: 0 without one", x.look(4), 0);
        Check.due("13: NONE without one", x.look(5), NONE);
        x.read();
        Check.due("13: of the latest read()", x.look(4), 1);
        Check.due("13: a place that is 0", x.look(5), 0);
        x.change(0, 0, ProgramBytes.GUARD, 0);
        Check.due("13: or change()", x.look(4), 8);
        x.change(0, 0, ProgramBytes.GUARD, 16);
        Check.due("13: of the latest change()", x.look(4), 3);
        Check.due("13: no place", x.look(5), NONE);
        x.read();
        Check.due("13: of the latest of both", x.look(4), 1);
        otherCalls(x);
        Check.due("13: no other call has a fault", x.look(4), 1);
        Check.due("13: nor a place", x.look(5), 0);
        x.change(0, 0, ProgramBytes.RETURN, 0);
        Check.due("13: 0 without one, again", x.look(4), 0);
        Check.due("13: NONE without one, again", x.look(5), NONE);
        otherCalls(x);
        Check.due("13: no other call makes one", x.look(4), 0);
        Check.due("13: nor its place", x.look(5), NONE);
    }

    private static void otherCalls(StackBytes x) {
        x.give(1, 9);
        x.give(1, 8);
        x.cut(-1);
        x.cut(0);
        x.poke(9, 9);
        x.write();
        x.turnOver();
        x.code(9, 9, 9);
        x.function(9, 9);
        x.handler(9, 9, 9);
        x.byteAt(-1, true);
        x.look(9);
    }

    private static void lookOfNone() {
        StackBytes x = two();
        Check.due("13: NONE for any other which: 6", x.look(6), NONE);
        for (int odd : ODD) {
            Check.due("13: NONE for any other which: " + odd, x.look(odd), NONE);
        }
    }
}
