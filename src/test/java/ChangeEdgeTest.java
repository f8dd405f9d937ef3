import java.util.ArrayList;
import java.util.Arrays;
import java.util.List;

/** Sentences of promise 8 that name an edge. */
public final class ChangeEdgeTest {
    private static final int NONE = Edge.NONE;

    public static void main(String[] args) {
        noSuchFunction();
        noSuchInstruction();
        noSuchOp();
        pushTakesAnyNumber();
        localsBehind();
        placesBehind();
        functionsBehind();
        servicesBehind();
        nothingBehind();
        faultsOfTypes();
        placeOfTheFunction();
        oneFaultAfterAnother();
        itBecomes();
        neverComeToIsNotVerified();
        theProgramAlone();
        Check.end();
    }

    /** FUNCTION 0: HOST 0, POP, RETURN; FUNCTION 1 (a PARAM, an INT and two ROWS behind it): GUARD 0, RETURN, POP. */
    private static byte[] two() {
        return new ProgramBytes(2).head(0, 0, 0, 0, 3)
            .op(ProgramBytes.HOST, 0).op(ProgramBytes.POP).op(ProgramBytes.RETURN).handlers(0)
            .head(1, 4, 12, 0, 3)
            .op(ProgramBytes.GUARD, 0).op(ProgramBytes.RETURN).op(ProgramBytes.POP).handlers(0).bytes();
    }

    /** None of these calls is right; each one leaves the PROGRAM as it was. */
    private static void noneSuch(String sentence, int[]... calls) {
        List<Integer> before = Edge.state(ChangeEdgeTest::readTwo);
        for (int[] call : calls) {
            StackBytes x = new StackBytes();
            readTwo(x);
            Edge.change(sentence, x, call, 3, NONE);
            List<Integer> after = Edge.state(y -> {
                readTwo(y);
                y.change(call[0], call[1], call[2], call[3]);
            });
            Check.due(sentence + ": it stays as it was", after.equals(before), true);
        }
    }

    private static void readTwo(StackBytes x) {
        ProgramBytes.load(x, two());
        x.read();
    }

    private static void noSuchFunction() {
        noneSuch("3 if it is none such: the FUNCTION", new int[] {-1, 0, 27, 0}, new int[] {2, 0, 27, 0},
            new int[] {11, 0, 27, 0}, new int[] {12, 0, 27, 0}, new int[] {Edge.MIN, 0, 27, 0},
            new int[] {Edge.MAX, 0, 27, 0}, new int[] {256, 0, 27, 0});
    }

    private static void noSuchInstruction() {
        for (int f = 0; f < 2; f++) {
            noneSuch("3 if it is none such: i", new int[] {f, -1, 27, 0}, new int[] {f, 3, 27, 0},
                new int[] {f, 4, 27, 0}, new int[] {f, 399, 27, 0}, new int[] {f, 400, 27, 0},
                new int[] {f, 512, 27, 0}, new int[] {f, Edge.MIN, 27, 0}, new int[] {f, Edge.MAX, 27, 0});
        }
    }

    private static void noSuchOp() {
        for (int behind : new int[] {0, 1, -1}) {
            noneSuch("3 if it is none such: op", new int[] {1, 2, -1, behind}, new int[] {1, 2, 30, behind},
                new int[] {1, 2, 31, behind}, new int[] {1, 2, 255, behind}, new int[] {1, 2, 256 + 27, behind},
                new int[] {1, 2, Edge.MIN, behind}, new int[] {1, 2, Edge.MAX, behind});
        }
        for (int op = 0; op < 30; op++) {
            StackBytes x = Edge.right("8", two());
            Edge.change("each op can be, where it is never come to", x, new int[] {1, 2, op, 0}, 0, NONE);
            Check.due("op is there", x.code(1, 2, 0), op);
        }
    }

    private static void pushTakesAnyNumber() {
        for (int k : new int[] {0, 1, -1, 255, 256, 65536, Edge.MIN, Edge.MAX}) {
            StackBytes x = Edge.right("8", two());
            Edge.change("PUSH k, any k", x, new int[] {0, 0, ProgramBytes.PUSH, k}, 0, NONE);
            Check.due("k is there", x.code(0, 0, 1), k);
            x.write();
            for (int b = 0; b < 4; b++) {
                Check.due("k is written, four bytes", x.byteAt(12 + b, false), k >>> 8 * (3 - b) & 255);
            }
        }
    }

    private static void behind(String sentence, int f, int i, int op, int most) {
        for (int behind = 0; behind <= most; behind++) {
            StackBytes x = Edge.right("8", two());
            Edge.change(sentence, x, new int[] {f, i, op, behind}, 0, NONE);
            Check.due(sentence + ": op", x.code(f, i, 0), op);
            Check.due(sentence + ": behind", x.code(f, i, 1), behind);
        }
        noneSuch(sentence, new int[] {f, i, op, -1}, new int[] {f, i, op, most + 1}, new int[] {f, i, op, most + 2},
            new int[] {f, i, op, 256}, new int[] {f, i, op, 65536}, new int[] {f, i, op, Edge.MIN},
            new int[] {f, i, op, Edge.MAX});
    }

    private static void localsBehind() {
        behind("3: a LOCAL", 1, 2, ProgramBytes.LOAD, 3);
        behind("3: a LOCAL", 1, 2, ProgramBytes.STORE, 3);
        noneSuch("3: there are no LOCALS", new int[] {0, 0, ProgramBytes.LOAD, 0},
            new int[] {0, 1, ProgramBytes.STORE, 0});
    }

    private static void placesBehind() {
        for (int op = ProgramBytes.JUMP; op <= ProgramBytes.IFNOT; op++) {
            behind("3: t", 1, 2, op, 2);
        }
        StackBytes x = Edge.right("8", ProgramBytes.oneFunction(0, 0, 0, 300, returns(300)));
        Edge.change("3: t of 300", x, new int[] {0, 0, ProgramBytes.JUMP, 299}, 0, NONE);
        Edge.change("3: t of 300", x, new int[] {0, 0, ProgramBytes.JUMP, 300}, 3, NONE);
        Check.due("t is there", x.code(0, 0, 1), 299);
    }

    private static int[] returns(int n) {
        int[] ops = new int[n];
        Arrays.fill(ops, ProgramBytes.RETURN);
        return ops;
    }

    private static void functionsBehind() {
        behind("3: f", 1, 2, ProgramBytes.CALL, 1);
    }

    private static void servicesBehind() {
        behind("3: c", 1, 2, ProgramBytes.HOST, 15);
        behind("3: c", 1, 2, ProgramBytes.GUARD, 15);
    }

    private static void nothingBehind() {
        List<int[]> calls = new ArrayList<>();
        for (int op = 0; op < 30; op++) {
            if (!ProgramBytes.hasBehind(op)) {
                for (int behind : new int[] {1, -1, 256, Edge.MIN, Edge.MAX}) {
                    calls.add(new int[] {1, 2, op, behind});
                }
            }
        }
        noneSuch("What has nothing behind is given with behind 0 (another one: it is none such)",
            calls.toArray(new int[0][]));
    }

    private static void stays(String sentence, int[] call, int fault, int place) {
        StackBytes x = new StackBytes();
        readTwo(x);
        Edge.change(sentence, x, call, fault, place);
        List<Integer> before = Edge.state(ChangeEdgeTest::readTwo);
        List<Integer> after = Edge.state(y -> {
            readTwo(y);
            y.change(call[0], call[1], call[2], call[3]);
        });
        Check.due(sentence + ": it stays as it was", after.equals(before), true);
    }

    private static void faultsOfTypes() {
        stays("else the fault: 5, itself", new int[] {0, 0, ProgramBytes.POP, 0}, 5, 0);
        stays("else the fault: 5, another one", new int[] {0, 0, ProgramBytes.GUARD, 0}, 5, 1);
        stays("else the fault: 5, of CALL", new int[] {1, 0, ProgramBytes.CALL, 1}, 5, 512);
        stays("else the fault: 7, itself", new int[] {0, 1, ProgramBytes.JUMP, 0}, 7, 0);
        stays("else the fault: 7, by IF", new int[] {0, 1, ProgramBytes.IF, 1}, 7, 1);
        stays("else the fault: 8", new int[] {0, 2, ProgramBytes.GUARD, 0}, 8, 2);
        stays("else the fault: 8, behind one that is come to now", new int[] {1, 1, ProgramBytes.HOST, 0}, 8, 514);
        StackBytes x = Edge.right("8", Edge.behindStack("IIIIIIIIIIIIIIII", 2, ProgramBytes.GUARD, 0, 27));
        Edge.change("else the fault: 6", x, new int[] {0, 16, ProgramBytes.PUSH, 1}, 6, 16);
        Edge.change("else the fault: 6", x, new int[] {0, 16, ProgramBytes.DUP, 0}, 6, 16);
        Check.due("it stays as it was: op", x.code(0, 16, 0), ProgramBytes.GUARD);
        Check.due("it stays as it was: behind", x.code(0, 16, 1), 0);
        Edge.change("one fewer is put", x, new int[] {0, 0, ProgramBytes.JUMP, 1}, 0, NONE);
        Edge.change("and so there is room for one", x, new int[] {0, 16, ProgramBytes.DUP, 0}, 0, NONE);
        Check.due("16 now", x.code(0, 17, 2), 16);
    }

    private static void placeOfTheFunction() {
        ProgramBytes made = new ProgramBytes(12);
        for (int f = 0; f < 12; f++) {
            made.head(0, 0, 0, 0, 2).op(ProgramBytes.GUARD, 0).op(ProgramBytes.RETURN).handlers(0);
        }
        for (int f = 0; f < 12; f++) {
            StackBytes x = Edge.right("8", made.bytes());
            Edge.change("the place is in FUNCTION " + f, x, new int[] {f, 1, ProgramBytes.POP, 0}, 5, 512 * f + 1);
            Edge.change("the other way", x, new int[] {f, 0, ProgramBytes.JUMP, 1}, 0, NONE);
            for (int g = 0; g < 12; g++) {
                Check.due("it is that of FUNCTION " + f + " alone: " + g, x.code(g, 0, 0), g == f ? 18 : 29);
            }
        }
    }

    private static void oneFaultAfterAnother() {
        StackBytes x = Edge.right("8", two());
        Edge.change("a place", x, new int[] {0, 2, ProgramBytes.GUARD, 0}, 8, 2);
        Edge.change("place NONE behind a place", x, new int[] {0, 2, 30, 0}, 3, NONE);
        Edge.change("a place again", x, new int[] {1, 0, ProgramBytes.POP, 0}, 5, 512);
        Edge.change("no fault", x, new int[] {1, 0, ProgramBytes.GUARD, 4}, 0, NONE);
        x.cut(3);
        Check.due("a fault of read", x.read(), 1);
        Check.due("and its place", x.look(5), 3);
        Edge.change("no fault behind that of read", x, new int[] {1, 0, ProgramBytes.GUARD, 8}, 0, NONE);
    }

    private static void itBecomes() {
        StackBytes x = Edge.right("8", two());
        Edge.change("0, if the PROGRAM is VERIFIED so", x, new int[] {0, 1, ProgramBytes.GUARD, 1}, 0, NONE);
        Check.due("one more is there then", x.code(0, 2, 2), 1);
        Edge.change("what it is already", x, new int[] {0, 1, ProgramBytes.GUARD, 1}, 0, NONE);
        Edge.change("a longer one", x, new int[] {0, 1, ProgramBytes.IF, 2}, 0, NONE);
        Check.due("one fewer is there then", x.code(0, 2, 2), 0);
        Check.due("a jump goes there then", x.code(0, 2, 4), 1);
        Edge.change("one that ends", x, new int[] {0, 1, ProgramBytes.THROW, 0}, 0, NONE);
        Check.due("what is behind was given before: 0 now", x.code(0, 1, 1), 0);
        Check.due("what is behind it is never come to", x.code(0, 2, 2), NONE);
        Check.due("no jump goes there any more", x.code(0, 2, 4), 0);
        Check.due("as many INSTRUCTIONS", x.look(1), 6);
    }

    private static void neverComeToIsNotVerified() {
        StackBytes x = Edge.right("8", two());
        Edge.change("none behind, never come to", x, new int[] {1, 2, ProgramBytes.ADD, 0}, 0, NONE);
        Edge.change("it is come to now", x, new int[] {1, 1, ProgramBytes.GUARD, 0}, 5, 514);
        Edge.change("by a jump", x, new int[] {1, 0, ProgramBytes.JUMP, 2}, 5, 514);
        Edge.change("another one", x, new int[] {1, 2, ProgramBytes.JUMP, 1}, 0, NONE);
        Edge.change("by a jump", x, new int[] {1, 0, ProgramBytes.JUMP, 2}, 0, NONE);
        Check.due("all are come to", x.function(1, 6), 3);
    }

    private static void theProgramAlone() {
        StackBytes x = Edge.right("8", two());
        x.write();
        x.change(0, 0, ProgramBytes.PUSH, 1);
        Check.due("BYTES are as they were", x.look(2), two().length);
        Check.due("WRITTEN are as they were", x.look(3), two().length);
        Check.due("a byte of them", x.byteAt(11, true), ProgramBytes.HOST);
        Check.due("a WRITTEN one", x.byteAt(11, false), ProgramBytes.HOST);
        Check.due("three more are WRITTEN then", x.write(), two().length + 3);
    }
}
