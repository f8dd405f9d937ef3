import java.util.ArrayList;
import java.util.Arrays;
import java.util.List;

/** Sentences of the terms that name an edge of what is VERIFIED: faults 5 to 8, their order and their places. */
public final class VerifyEdgeTest {
    private static final int NONE = Edge.NONE;
    private static final String SIXTEEN = "IIIIIIIIIIIIIIII";
    private static final String FIFTEEN = "IIIIIIIIIIIIIII";

    /** Of each INSTRUCTION: itself, what stands behind, what it takes (the top last), what it puts; '?' is either. */
    private static final String[] KINDS = {
        "0 9  I", "1 - ? ", "4 0  I", "4 1  R", "5 0 I ", "5 1 R ", "6 - II I", "7 - II I", "8 - II I", "9 - II I",
        "10 - II I", "11 - II I", "12 - II I", "13 - II I", "14 - II I", "15 - II I", "16 - II I", "17 - II I",
        "21 - I R", "22 - RI I", "23 - RII ", "24 - R I",
        "26 0  I", "26 1 I I", "26 2 II I", "26 3 III I", "26 4  I", "26 7 III I", "26 12  I", "26 13 I I",
        "26 14 II I", "26 15 III I",
        "29 0  ", "29 1 I I", "29 2 II II", "29 3 III III", "29 4  ", "29 7 III III", "29 12  ", "29 13 I I",
        "29 14 II II", "29 15 III III",
    };

    public static void main(String[] args) {
        List<String> stacks = stacks();
        for (String kind : KINDS) {
            String[] parts = kind.split(" ", -1);
            for (String stack : stacks) {
                takesAndPuts(parts, stack);
            }
        }
        rowsWithResult();
        dupAndSwap(stacks);
        conditions(stacks);
        returns(stacks);
        throwsCode(stacks);
        calls(stacks);
        sixteen();
        sixteenByCalls();
        sixteenTypes();
        noneBehind();
        someBehind();
        otherTypes();
        sameTypes();
        theLeastNumber();
        waitsNoMore();
        waitedBefore();
        rangeOfHandlers();
        targetsWithOneInt();
        orderOfHandlers();
        orderOfOne();
        places();
        functionByFunction();
        Check.end();
    }

    private static List<String> stacks() {
        List<String> all = new ArrayList<>();
        all.add("");
        for (int k = 0; k < 31; k++) {
            all.add(all.get(k) + "I");
            all.add(all.get(k) + "R");
        }
        return all;
    }

    private static int[] bytesOf(int op, int behind) {
        if (op == ProgramBytes.PUSH) {
            return new int[] {op, 0, 0, 0, behind, ProgramBytes.RETURN};
        }
        return ProgramBytes.hasBehind(op) ? new int[] {op, behind, ProgramBytes.RETURN}
            : new int[] {op, ProgramBytes.RETURN};
    }

    private static boolean endsWith(String stack, String taken) {
        if (stack.length() < taken.length()) {
            return false;
        }
        String upper = stack.substring(stack.length() - taken.length());
        for (int k = 0; k < taken.length(); k++) {
            if (taken.charAt(k) != '?' && taken.charAt(k) != upper.charAt(k)) {
                return false;
            }
        }
        return true;
    }

    private static String less(String stack, int n) {
        return stack.substring(0, stack.length() - n);
    }

    private static void left(String sentence, StackBytes x, int i, String types) {
        Check.due(sentence + ": how many are there then", x.code(0, i, 2), types.length());
        Check.due(sentence + ": which are ROWS then", x.code(0, i, 3), Edge.rows(types));
    }

    private static void takesAndPuts(String[] kind, String stack) {
        int op = Integer.parseInt(kind[0]);
        int behind = kind[1].equals("-") ? 0 : Integer.parseInt(kind[1]);
        String sentence = "Fault 5: op " + op + " " + behind + " on " + stack;
        byte[] bytes = Edge.behindStack(stack, 2, bytesOf(op, behind));
        if (endsWith(stack, kind[2])) {
            left(sentence, Edge.right(sentence, bytes), stack.length() + 1, less(stack, kind[2].length()) + kind[3]);
        } else {
            Edge.read(sentence, bytes, 5, stack.length());
        }
    }

    /** The RESULT of FUNCTION 0 has to do with RETURN and CALL alone. */
    private static void rowsWithResult() {
        StackBytes x = Edge.right("with a RESULT", new ProgramBytes(1).head(0, 1, 1, 1, 10)
            .op(ProgramBytes.HOST, 0).op(ProgramBytes.NEW).op(ProgramBytes.HOST, 0).op(ProgramBytes.HOST, 0)
            .op(ProgramBytes.PUT).op(ProgramBytes.LOAD, 0).op(ProgramBytes.SIZE).op(ProgramBytes.LOAD, 0)
            .op(ProgramBytes.SIZE).op(ProgramBytes.RETURN).handlers(0).bytes());
        int[] depths = {0, 1, 1, 2, 3, 0, 1, 1, 2, 2};
        for (int i = 0; i < depths.length; i++) {
            Check.due("with a RESULT, INSTRUCTION " + i, x.code(0, i, 2), depths[i]);
        }
        StackBytes y = Edge.right("GET with a RESULT", new ProgramBytes(1).head(0, 1, 1, 1, 4)
            .op(ProgramBytes.LOAD, 0).op(ProgramBytes.HOST, 0).op(ProgramBytes.GET).op(ProgramBytes.RETURN)
            .handlers(0).bytes());
        left("GET with a RESULT", y, 3, "I");
    }

    private static void dupAndSwap(List<String> stacks) {
        for (String stack : stacks) {
            int n = stack.length();
            byte[] dup = Edge.behindStack(stack, 2, ProgramBytes.DUP, ProgramBytes.RETURN);
            if (n < 1) {
                Edge.read("DUP of none", dup, 5, 0);
            } else {
                left("DUP puts the top once more", Edge.right("DUP", dup), n + 1, stack + stack.charAt(n - 1));
            }
            byte[] swap = Edge.behindStack(stack, 2, ProgramBytes.SWAP, ProgramBytes.RETURN);
            if (n < 2) {
                Edge.read("SWAP of " + n, swap, 5, n);
            } else {
                left("SWAP changes the upper two over", Edge.right("SWAP", swap), n + 1,
                    less(stack, 2) + stack.charAt(n - 1) + stack.charAt(n - 2));
            }
        }
    }

    private static void conditions(List<String> stacks) {
        for (int op : new int[] {ProgramBytes.IF, ProgramBytes.IFNOT}) {
            for (String stack : stacks) {
                int n = stack.length();
                String sentence = "takes an INT, op " + op + " on " + stack;
                byte[] bytes = Edge.behindStack(stack, 3, op, 0, n + 2, ProgramBytes.RETURN, ProgramBytes.RETURN);
                if (!stack.endsWith("I")) {
                    Edge.read(sentence, bytes, 5, n);
                } else {
                    StackBytes x = Edge.right(sentence, bytes);
                    left(sentence + ", the one behind", x, n + 1, less(stack, 1));
                    left(sentence + ", t", x, n + 2, less(stack, 1));
                }
            }
        }
    }

    /** FUNCTION 1 with a RESULT puts these types and RETURNS. */
    private static byte[] returning(int result, String stack) {
        ProgramBytes made = new ProgramBytes(2).head(0, 0, 0, 0, 1).op(ProgramBytes.RETURN).handlers(0)
            .head(0, 2, 2, result, stack.length() + 1);
        for (int k = 0; k < stack.length(); k++) {
            made.op(ProgramBytes.LOAD, stack.charAt(k) == 'R' ? 1 : 0);
        }
        return made.op(ProgramBytes.RETURN).handlers(0).bytes();
    }

    private static void returns(List<String> stacks) {
        String[] ends = {"", "I", "R"};
        for (String stack : stacks) {
            for (int result = 0; result < 3; result++) {
                String sentence = "RETURN takes RESULT, if there is one; what is below that is gone: " + stack;
                boolean can = stack.endsWith(ends[result]);
                Edge.read(sentence, returning(result, stack), can ? 0 : 5, can ? NONE : 512 + stack.length());
            }
        }
    }

    private static void throwsCode(List<String> stacks) {
        for (String stack : stacks) {
            boolean can = stack.endsWith("I");
            Edge.read("THROW takes an INT: on " + stack, Edge.behindStack(stack, 1, ProgramBytes.THROW), can ? 0 : 5,
                can ? NONE : stack.length());
        }
    }

    /** FUNCTION 0 puts these types and calls FUNCTION 1, which takes those and has this RESULT. */
    private static byte[] calling(String stack, String taken, int result) {
        ProgramBytes made = new ProgramBytes(2).head(0, 2, 2, 0, stack.length() + 2);
        for (int k = 0; k < stack.length(); k++) {
            made.op(ProgramBytes.LOAD, stack.charAt(k) == 'R' ? 1 : 0);
        }
        made.op(ProgramBytes.CALL, 1).op(ProgramBytes.RETURN).handlers(0);
        // The LOCALS behind the PARAMS are ROWS: they are not taken.
        int n = taken.length();
        made.head(n, n + 2, Edge.rows(taken + "RR"), result, 2);
        if (result == 1) {
            made.op(ProgramBytes.HOST, 0);
        } else {
            made.op(ProgramBytes.LOAD, n);
        }
        return made.op(ProgramBytes.RETURN).handlers(0).bytes();
    }

    private static void calls(List<String> stacks) {
        String[] puts = {"", "I", "R"};
        for (String taken : new String[] {"", "I", "R", "IR", "RI", "IIR", "RII", "RIR", "IIII", "RIII", "IIIR"}) {
            for (int result = 0; result < 3; result++) {
                for (String stack : stacks) {
                    String sentence = "CALL takes PARAMS (the last one first), puts RESULT: " + taken + " on " + stack;
                    byte[] bytes = calling(stack, taken, result);
                    if (stack.endsWith(taken)) {
                        left(sentence, Edge.right(sentence, bytes), stack.length() + 1,
                            less(stack, taken.length()) + puts[result]);
                    } else {
                        Edge.read(sentence, bytes, 5, stack.length());
                    }
                }
            }
        }
    }

    private static void sixteen() {
        String s = "Fault 6: there would be more than 16 on the STACK: op ";
        int[][] growing = {{ProgramBytes.PUSH, 1}, {ProgramBytes.DUP, 0}, {ProgramBytes.LOAD, 0},
            {ProgramBytes.LOAD, 1}, {ProgramBytes.HOST, 0}, {ProgramBytes.HOST, 4}, {ProgramBytes.HOST, 8},
            {ProgramBytes.HOST, 12}};
        for (int[] one : growing) {
            byte[] to16 = Edge.behindStack(FIFTEEN, 2, bytesOf(one[0], one[1]));
            byte[] to17 = Edge.behindStack(SIXTEEN, 2, bytesOf(one[0], one[1]));
            Check.due(s + one[0] + ": 16", Edge.right(s + one[0] + " to 16", to16).function(0, 7), 16);
            Edge.read(s + one[0] + " to 17", to17, 6, 16);
        }
        int[][] notGrowing = {{ProgramBytes.POP, 0}, {ProgramBytes.SWAP, 0}, {ProgramBytes.STORE, 0},
            {ProgramBytes.ADD, 0}, {ProgramBytes.SAME, 0}, {ProgramBytes.NEW, 0}, {ProgramBytes.HOST, 1},
            {ProgramBytes.HOST, 15}, {ProgramBytes.GUARD, 0}, {ProgramBytes.GUARD, 3}};
        for (int[] one : notGrowing) {
            Edge.right(s + one[0] + " at 16", Edge.behindStack(SIXTEEN, 2, bytesOf(one[0], one[1])));
        }
        Edge.right(s + "24 at 16", Edge.behindStack(FIFTEEN + "R", 2, ProgramBytes.SIZE, ProgramBytes.RETURN));
        Edge.right(s + "22 at 16", Edge.behindStack(less(FIFTEEN, 1) + "RI", 2, ProgramBytes.GET, ProgramBytes.RETURN));
    }

    private static void sixteenByCalls() {
        for (int result = 0; result < 3; result++) {
            boolean can = result == 0;
            Edge.read("Fault 6: by RESULT of a CALL without PARAMS", calling(SIXTEEN, "", result), can ? 0 : 6,
                can ? NONE : 16);
            Edge.right("not 6: RESULT comes to 16", calling(FIFTEEN, "", result));
            Edge.right("not 6: PARAMS are taken before RESULT is put", calling(SIXTEEN, "I", result));
        }
    }

    private static void sixteenTypes() {
        for (int k = 0; k < 16; k++) {
            String types = SIXTEEN.substring(0, k) + "R" + SIXTEEN.substring(k + 1);
            StackBytes x = Edge.right("16 with a ROW", Edge.behindStack(types, 1, ProgramBytes.RETURN));
            left("the lowest one bit 0: " + k, x, 16, types);
        }
        StackBytes x = Edge.right("16 ROWS", Edge.behindStack(SIXTEEN.replace('I', 'R'), 1, ProgramBytes.RETURN));
        Check.due("16 ROWS", x.code(0, 16, 3), 65535);
    }

    private static byte[] lastIs(String stack, int op, int behind) {
        int[] bytes = bytesOf(op, behind);
        return Edge.behindStack(stack, 1, Arrays.copyOf(bytes, bytes.length - 1));
    }

    private static void noneBehind() {
        for (String kind : KINDS) {
            String[] parts = kind.split(" ", -1);
            int op = Integer.parseInt(parts[0]);
            String stack = "RRR" + parts[2].replace('?', 'I');
            int behind = parts[1].equals("-") ? 0 : Integer.parseInt(parts[1]);
            Edge.read("Fault 8: there is none behind: op " + op, lastIs(stack, op, behind), 8, stack.length());
        }
        Edge.read("Fault 8: DUP", lastIs("R", ProgramBytes.DUP, 0), 8, 1);
        Edge.read("Fault 8: SWAP", lastIs("RI", ProgramBytes.SWAP, 0), 8, 2);
        Edge.read("Fault 8: CALL", new ProgramBytes(1).head(0, 0, 0, 0, 1).op(ProgramBytes.CALL, 0).handlers(0).bytes(),
            8, 0);
        for (int op : new int[] {ProgramBytes.IF, ProgramBytes.IFNOT}) {
            // t is there with as many as are come to it with, and so it is the one behind that is missing.
            Edge.read("Fault 8: op " + op, Edge.behindStack("I", 1, op, 0, 0), 8, 1);
        }
    }

    private static void someBehind() {
        Edge.right("of JUMP t alone", Edge.behindStack("", 1, ProgramBytes.JUMP, 0, 0));
        Edge.right("of RETURN none", Edge.behindStack("IR", 1, ProgramBytes.RETURN));
        Edge.right("of THROW none", Edge.behindStack("RI", 1, ProgramBytes.THROW));
        Edge.right("what is never come to needs none behind",
            Edge.behindStack("", 2, ProgramBytes.RETURN, ProgramBytes.ADD));
        for (int op : new int[] {ProgramBytes.RETURN, ProgramBytes.THROW}) {
            StackBytes x = Edge.right("none is next", Edge.behindStack("I", 2, op, ProgramBytes.RETURN));
            Check.due("of RETURN and THROW none: " + op, x.code(0, 2, 2), NONE);
        }
        StackBytes x = Edge.right("JUMP t alone", Edge.behindStack("", 3, ProgramBytes.JUMP, 0, 2, 27, 27));
        Check.due("of JUMP t alone: not the one behind", x.code(0, 1, 2), NONE);
        Check.due("of JUMP t alone", x.code(0, 2, 2), 0);
    }

    /** From 0 on: one way puts these types and jumps to the end, the other way puts those and comes to it. */
    private static byte[] twoWays(String first, String second) {
        int end = 3 + first.length() + second.length();
        ProgramBytes made = new ProgramBytes(1).head(0, 2, 2, 0, end + 1)
            .op(ProgramBytes.HOST, 0).op(ProgramBytes.IF, 3 + first.length());
        for (int k = 0; k < first.length(); k++) {
            made.op(ProgramBytes.LOAD, first.charAt(k) == 'R' ? 1 : 0);
        }
        made.op(ProgramBytes.JUMP, end);
        for (int k = 0; k < second.length(); k++) {
            made.op(ProgramBytes.LOAD, second.charAt(k) == 'R' ? 1 : 0);
        }
        return made.op(ProgramBytes.RETURN).handlers(0).bytes();
    }

    private static void otherTypes() {
        String s = "Fault 7: it has been come to with other types: ";
        String[][] pairs = {{"I", "R"}, {"R", "I"}, {"I", "II"}, {"II", "I"}, {"", "R"}, {"R", "RR"}, {"RR", "R"},
            {"IR", "RI"}, {"IRI", "IRR"}, {"RII", "III"}, {SIXTEEN, FIFTEEN}, {FIFTEEN, SIXTEEN},
            {SIXTEEN, FIFTEEN + "R"}, {SIXTEEN, "R" + FIFTEEN}, {"R" + FIFTEEN, SIXTEEN}};
        for (String[] pair : pairs) {
            Edge.read(s + pair[0] + " and " + pair[1], twoWays(pair[0], pair[1]), 7,
                3 + pair[0].length() + pair[1].length());
        }
        Edge.read(s + "INSTRUCTION 0, which waits with nothing",
            Edge.behindStack("I", 1, ProgramBytes.JUMP, 0, 0), 7, 0);
        Edge.read(s + "itself", Edge.behindStack("II", 2, ProgramBytes.IF, 0, 2, ProgramBytes.RETURN), 7, 2);
        Edge.read(s + "t, and then the one behind with others",
            Edge.behindStack("III", 2, ProgramBytes.IF, 0, 1, ProgramBytes.RETURN), 7, 1);
    }

    private static void sameTypes() {
        for (String types : new String[] {"", "I", "R", "RI", "IRIR", SIXTEEN, FIFTEEN + "R"}) {
            int end = 3 + 2 * types.length();
            StackBytes x = Edge.right("come to twice with the same types: " + types, twoWays(types, types));
            left("come to twice with the same types", x, end, types);
        }
        Edge.right("INSTRUCTION 0 again with nothing", Edge.behindStack("", 2, ProgramBytes.GUARD, 0, 18, 0, 0));
        Edge.right("t is the one behind", Edge.behindStack("I", 2, ProgramBytes.IFNOT, 0, 2, ProgramBytes.RETURN));
    }

    private static void theLeastNumber() {
        String s = "the one with the least number is looked at: ";
        // IF 3: t (3) is come to before the one behind (2), but 2 is looked at first. Both would be fault 5.
        Edge.read(s + "the one behind before t", Edge.behindStack("I", 4,
            ProgramBytes.IF, 0, 3, ProgramBytes.POP, ProgramBytes.POP, ProgramBytes.RETURN), 5, 2);
        // 3 (IF 1) comes to 1 and 4: 1 is less than the one looked at.
        Edge.read(s + "t before the one behind", Edge.behindStack("", 6, ProgramBytes.JUMP, 0, 2, ProgramBytes.POP,
            ProgramBytes.HOST, 0, ProgramBytes.IF, 0, 1, ProgramBytes.POP, ProgramBytes.RETURN), 5, 1);
        // 5 waits from the first IF on, while 2, 3, 4 are come to one by one: the fault of 4 is told.
        Edge.read(s + "one that waits for long", Edge.behindStack("I", 7, ProgramBytes.IF, 0, 5,
            ProgramBytes.GUARD, 0, ProgramBytes.GUARD, 0, ProgramBytes.POP, ProgramBytes.POP, ProgramBytes.RETURN,
            ProgramBytes.RETURN), 5, 4);
        // 6 waits; from 2 on the way goes back to 1 and there to 4.
        Edge.read(s + "backwards and forwards", new ProgramBytes(1).head(0, 0, 0, 0, 8)
            .op(ProgramBytes.JUMP, 2).op(ProgramBytes.JUMP, 4).op(ProgramBytes.HOST, 0).op(ProgramBytes.IF, 1)
            .op(ProgramBytes.POP).op(ProgramBytes.RETURN).op(ProgramBytes.POP).op(ProgramBytes.RETURN)
            .handlers(1).handlerForAny(2, 3, 6).bytes(), 5, 4);
    }

    private static void waitsNoMore() {
        // A loop of three: each is looked at once, and all are as they were come to first.
        StackBytes x = Edge.right("which waits no more", Edge.behindStack("", 5, ProgramBytes.HOST, 0,
            ProgramBytes.IFNOT, 0, 4, ProgramBytes.HOST, 0, ProgramBytes.IF, 0, 0, ProgramBytes.RETURN));
        int[] depths = {0, 1, 0, 1, 0};
        for (int i = 0; i < depths.length; i++) {
            Check.due("which waits no more: " + i, x.code(0, i, 2), depths[i]);
        }
        // 400 INSTRUCTIONS, looked at backwards: each one jumps to the one ahead of it.
        ProgramBytes made = new ProgramBytes(1).head(0, 0, 0, 0, 400).op(ProgramBytes.JUMP, 399)
            .op(ProgramBytes.RETURN);
        for (int i = 2; i < 400; i++) {
            made.op(ProgramBytes.JUMP, i - 1);
        }
        StackBytes y = Edge.right("as long as one waits", made.handlers(0).bytes());
        Check.due("all 400 are come to", y.function(0, 6), 400);
    }

    /** What waited when a fault was found does not wait in what is VERIFIED next. */
    private static void waitedBefore() {
        StackBytes x = Edge.read("3 waits still", Edge.behindStack("I", 4,
            ProgramBytes.IF, 0, 3, ProgramBytes.POP, ProgramBytes.RETURN, ProgramBytes.RETURN), 5, 2);
        Edge.readAgain(x, "3 is never come to", Edge.behindStack("I", 3,
            ProgramBytes.POP, ProgramBytes.RETURN, ProgramBytes.ADD), 0, NONE);
        Check.due("three are come to", x.function(0, 6), 3);
        Check.due("3 is not", x.code(0, 3, 2), NONE);
    }

    /** GUARDS, a RETURN at 5, POP at 6 and RETURN at 7; a HANDLER goes from its range to 6. */
    private static byte[] guarded(int from, int to) {
        return guards().handlers(1).handlerForAny(from, to, 6).bytes();
    }

    private static ProgramBytes guards() {
        ProgramBytes made = new ProgramBytes(1).head(0, 0, 0, 0, 8);
        for (int i = 0; i < 5; i++) {
            made.op(ProgramBytes.GUARD, 0);
        }
        return made.op(ProgramBytes.RETURN).op(ProgramBytes.POP).op(ProgramBytes.RETURN);
    }

    private static void rangeOfHandlers() {
        for (int from = 0; from < 8; from++) {
            for (int to = from + 1; to <= 8; to++) {
                String s = "for each HANDLER in whose range it is: " + from + " to before " + to;
                // Behind 5 none is come to, but by the HANDLER itself.
                boolean used = from <= 5;
                StackBytes x = Edge.right(s, guarded(from, to));
                Check.due(s + ": TARGET is come to", x.code(0, 6, 2), used ? 1 : NONE);
                Check.due(s + ": so many are come to", x.function(0, 6), used ? 8 : 6);
            }
        }
        // Only 2 is come to of those around the range.
        for (int from = 0; from < 4; from++) {
            for (int to = from + 1; to <= 4; to++) {
                StackBytes x = Edge.right("FROM to before TO", new ProgramBytes(1).head(0, 0, 0, 0, 6)
                    .op(ProgramBytes.JUMP, 2).op(ProgramBytes.RETURN).op(ProgramBytes.RETURN).op(ProgramBytes.RETURN)
                    .op(ProgramBytes.POP).op(ProgramBytes.RETURN)
                    .handlers(1).handlerForAny(from, to, 4).bytes());
                boolean inside = from == 0 || from <= 2 && to > 2;
                Check.due("FROM to before TO: " + from + " to " + to, x.code(0, 4, 2), inside ? 1 : NONE);
            }
        }
    }

    private static void targetsWithOneInt() {
        String s = "TARGET is come to with one INT: ";
        for (int op : new int[] {ProgramBytes.JUMP, ProgramBytes.RETURN, ProgramBytes.THROW}) {
            ProgramBytes made = new ProgramBytes(1).head(0, 2, 2, 0, 6)
                .op(ProgramBytes.LOAD, 1).op(ProgramBytes.LOAD, 0);
            if (op == ProgramBytes.JUMP) {
                made.op(op, 3);
            } else {
                made.op(op);
            }
            StackBytes x = Edge.right(s, made.op(ProgramBytes.RETURN).op(ProgramBytes.STORE, 0).op(ProgramBytes.RETURN)
                .handlers(1).handlerFor(2, 3, 4, 5).bytes());
            Check.due(s + "how many, from op " + op, x.code(0, 4, 2), 1);
            Check.due(s + "no ROW", x.code(0, 4, 3), 0);
        }
        Edge.read(s + "not a ROW", new ProgramBytes(1).head(0, 0, 0, 0, 3).op(ProgramBytes.RETURN)
            .op(ProgramBytes.SIZE).op(ProgramBytes.RETURN).handlers(1).handlerForAny(0, 1, 1).bytes(), 5, 1);
        Edge.read(s + "not two", new ProgramBytes(1).head(0, 0, 0, 0, 3).op(ProgramBytes.RETURN)
            .op(ProgramBytes.ADD).op(ProgramBytes.RETURN).handlers(1).handlerForAny(0, 1, 1).bytes(), 5, 1);
        Edge.read(s + "it is INSTRUCTION 0", new ProgramBytes(1).head(0, 0, 0, 0, 1).op(ProgramBytes.RETURN)
            .handlers(1).handlerForAny(0, 1, 0).bytes(), 7, 0);
        Edge.right(s + "it is in its own range", new ProgramBytes(1).head(0, 0, 0, 0, 2).op(ProgramBytes.RETURN)
            .op(ProgramBytes.RETURN).handlers(1).handlerForAny(0, 2, 1).bytes());
        Edge.read(s + "the one ahead comes to it with nothing",
            guards().handlers(1).handlerForAny(0, 8, 5).bytes(), 7, 5);
    }

    private static void orderOfHandlers() {
        String s = "for each HANDLER, in their order: ";
        // At 2 all of 0, 1 and 2 have been come to without an INT: the first HANDLER's TARGET is the fault's place.
        for (int first = 0; first <= 2; first++) {
            for (int second = 0; second <= 2; second++) {
                Edge.read(s + first + ", " + second,
                    guards().handlers(2).handlerForAny(2, 3, first).handlerFor(2, 3, second, 1).bytes(), 7, first);
            }
        }
        for (int k = 0; k < 6; k++) {
            ProgramBytes made = guards().handlers(6);
            for (int j = 0; j < 6; j++) {
                made.handlerFor(3, 4, j == k ? 1 : 6, j);
            }
            Edge.read(s + "the HANDLER " + k + " of six", made.bytes(), 7, 1);
        }
    }

    private static void orderOfOne() {
        String s = "Then, for each HANDLER; then t, then the one behind: ";
        Edge.read(s + "5 before a HANDLER", new ProgramBytes(1).head(0, 0, 0, 0, 2)
            .op(ProgramBytes.HOST, 0).op(ProgramBytes.SIZE)
            .handlers(1).handlerForAny(1, 2, 0).bytes(), 5, 1);
        Edge.read(s + "6 before a HANDLER", sixteenThen(ProgramBytes.DUP), 6, 16);
        Edge.read(s + "a HANDLER before t", new ProgramBytes(1).head(0, 0, 0, 0, 3)
            .op(ProgramBytes.HOST, 0).op(ProgramBytes.HOST, 0).op(ProgramBytes.JUMP, 1)
            .handlers(1).handlerForAny(2, 3, 0).bytes(), 7, 0);
        Edge.read(s + "a HANDLER before the one behind: 8", new ProgramBytes(1).head(0, 0, 0, 0, 2)
            .op(ProgramBytes.HOST, 0).op(ProgramBytes.POP)
            .handlers(1).handlerForAny(1, 2, 0).bytes(), 7, 0);
        // The HANDLER comes to 2 first, with one INT; the one behind comes with nothing.
        Edge.read(s + "a HANDLER's TARGET is the one behind", new ProgramBytes(1).head(0, 0, 0, 0, 3)
            .op(ProgramBytes.HOST, 0).op(ProgramBytes.POP).op(ProgramBytes.RETURN)
            .handlers(1).handlerForAny(1, 2, 2).bytes(), 7, 2);
        Edge.read(s + "t before the one behind: 8", Edge.behindStack("II", 1, ProgramBytes.IF, 0, 0), 7, 0);
        Edge.read(s + "t before the one behind: 7", new ProgramBytes(1).head(0, 0, 0, 0, 4)
            .op(ProgramBytes.HOST, 0).op(ProgramBytes.HOST, 0).op(ProgramBytes.IF, 0).op(ProgramBytes.RETURN)
            .handlers(1).handlerForAny(0, 1, 3).bytes(), 7, 0);
        Edge.read(s + "the one behind after t", new ProgramBytes(1).head(0, 0, 0, 0, 4)
            .op(ProgramBytes.HOST, 0).op(ProgramBytes.HOST, 0).op(ProgramBytes.IFNOT, 1).op(ProgramBytes.RETURN)
            .handlers(1).handlerForAny(0, 1, 3).bytes(), 0, NONE);
        Edge.read(s + "what is come to is looked at later", new ProgramBytes(1).head(0, 0, 0, 0, 3)
            .op(ProgramBytes.JUMP, 2).op(ProgramBytes.RETURN).op(ProgramBytes.POP).handlers(0).bytes(), 5, 2);
    }

    /** 16 on the STACK, then op, from which a HANDLER goes to INSTRUCTION 0. */
    private static byte[] sixteenThen(int op) {
        ProgramBytes made = new ProgramBytes(1).head(0, 0, 0, 0, 18);
        for (int i = 0; i < 16; i++) {
            made.op(ProgramBytes.HOST, 0);
        }
        return made.op(op).op(ProgramBytes.RETURN).handlers(1).handlerForAny(16, 17, 0).bytes();
    }

    /** FUNCTIONS that RETURN, and at last this one. */
    private static byte[] lastFunction(int functions, byte[] last) {
        ProgramBytes made = new ProgramBytes(functions);
        for (int f = 0; f < functions - 1; f++) {
            made.head(0, 0, 0, 0, 1).op(ProgramBytes.RETURN).handlers(0);
        }
        for (int k = 4; k < last.length; k++) {
            made.one(last[k]);
        }
        return made.bytes();
    }

    private static void places() {
        String s = "The place is 512 times the FUNCTION and the INSTRUCTION: ";
        for (int functions : new int[] {1, 2, 3, 12}) {
            int first = 512 * (functions - 1);
            Edge.read(s + "5", lastFunction(functions, Edge.behindStack("II", 1, ProgramBytes.SIZE)), 5, first + 2);
            Edge.read(s + "6", lastFunction(functions, sixteenThen(ProgramBytes.DUP)), 6, first + 16);
            Edge.read(s + "7, that which is come to", lastFunction(functions, twoWays("I", "R")), 7, first + 5);
            Edge.read(s + "8", lastFunction(functions, Edge.behindStack("R", 1, ProgramBytes.POP)), 8, first + 1);
            ProgramBytes made = new ProgramBytes(1).head(0, 0, 0, 0, 400);
            for (int i = 0; i < 400; i++) {
                made.op(ProgramBytes.GUARD, 0);
            }
            Edge.read(s + "399", lastFunction(functions, made.handlers(0).bytes()), 8, first + 399);
        }
    }

    private static void functionByFunction() {
        String s = "FUNCTION by FUNCTION: ";
        ProgramBytes made = new ProgramBytes(3).head(0, 0, 0, 0, 1).op(ProgramBytes.RETURN).handlers(0)
            .head(0, 0, 0, 0, 3).op(ProgramBytes.GUARD, 0).op(ProgramBytes.GUARD, 0).op(ProgramBytes.POP).handlers(0)
            .head(0, 0, 0, 0, 1).op(ProgramBytes.POP).handlers(0);
        Edge.read(s + "1 before 2", made.bytes(), 5, 512 + 2);
        // FUNCTION 1 is never called: it is VERIFIED all the same.
        Edge.read(s + "each one", lastFunction(2, Edge.behindStack("", 1, ProgramBytes.POP)), 5, 512);
        // A CALL of FUNCTION 1 is right, whatever is inside of that one; its own fault comes in its turn.
        Edge.read(s + "0 calls 1, which is wrong", new ProgramBytes(2).head(0, 0, 0, 0, 2)
            .op(ProgramBytes.CALL, 1).op(ProgramBytes.RETURN).handlers(0)
            .head(0, 0, 0, 1, 1).op(ProgramBytes.RETURN).handlers(0).bytes(), 5, 512);
        Edge.right(s + "each calls itself and the next", new ProgramBytes(2).head(0, 0, 0, 1, 4)
            .op(ProgramBytes.CALL, 0).op(ProgramBytes.CALL, 1).op(ProgramBytes.SIZE).op(ProgramBytes.RETURN).handlers(0)
            .head(1, 1, 0, 2, 3).op(ProgramBytes.LOAD, 0).op(ProgramBytes.CALL, 1).op(ProgramBytes.RETURN).handlers(0)
            .bytes());
    }
}
