import java.util.Arrays;

/** Sentences of promises 1, 2, 3, 4, 6, 7 and 12 that name an edge: the BYTES and the WRITTEN ones. */
public final class BytesEdgeTest {
    private static final int NONE = Edge.NONE;

    public static void main(String[] args) {
        newHasNoBytes();
        newReturns();
        giveTakesOneToEight();
        giveTakesTheLowestHighestFirst();
        giveUpTo4096();
        giveWithoutRoom();
        cutKeepsTheFirst();
        cutOfFewer();
        cutBelowNone();
        pokeTakesEightBits();
        pokeOfNone();
        writtenAreReplaced();
        turnOverOfNone();
        turnOverReplaces();
        turnOverOfMore();
        turnOverUpTo4096();
        byteAtEdges();
        Check.end();
    }

    private static void newHasNoBytes() {
        String s = "1: No BYTES";
        Check.due(s + ": look", new StackBytes().look(2), 0);
        Check.due(s + ": byteAt", new StackBytes().byteAt(0, true), NONE);
        Check.due(s + ": cut to one", new StackBytes().cut(1), false);
        Check.due(s + ": cut to none", new StackBytes().cut(0), true);
        Check.due(s + ": poke", new StackBytes().poke(0, 0), false);
        Edge.read(s, new byte[0], 1, 0);
    }

    private static void newReturns() {
        String s = "1: one FUNCTION, without PARAMS, LOCALS, RESULT, which RETURNS";
        StackBytes x = new StackBytes();
        int[] functions = {0, 0, 0, 0, 1, 0, 1, 0};
        for (int what = 0; what < functions.length; what++) {
            Check.due(s + ": function " + what, x.function(0, what), functions[what]);
        }
        int[] codes = {27, 0, 0, 0, 0};
        for (int what = 0; what < codes.length; what++) {
            Check.due(s + ": code " + what, x.code(0, 0, what), codes[what]);
        }
        Check.due(s + ": FUNCTIONS", x.look(0), 1);
        Check.due(s + ": no second one", x.function(1, 0), NONE);
        Check.due(s + ": no handler", x.handler(0, 0, 1), 0);
        Check.due(s + ": none written", x.look(3), 0);
        Check.due(s + ": no fault", x.look(4), 0);
        Check.due(s + ": no place", x.look(5), NONE);
        Check.due(s + ": bytes", x.write(), Edge.RETURNS.length);
        for (int k = 0; k < Edge.RETURNS.length; k++) {
            Check.due(s + ": byte " + k, x.byteAt(k, false), Edge.RETURNS[k]);
        }
    }

    private static void giveTakesOneToEight() {
        for (int n = -2; n <= 12; n++) {
            StackBytes x = new StackBytes();
            boolean is = n >= 1 && n <= 8;
            Check.due("2: n bytes, 1 .. 8; false if n is not as said: " + n, x.give(-1, n), is);
            Check.due("2: so many came of " + n, x.look(2), is ? n : 0);
        }
        for (int n : new int[] {Edge.MIN, Edge.MAX, 256, 257, 264, -8, 1 << 16 | 4}) {
            StackBytes x = new StackBytes();
            Check.due("2: false if n is not as said: " + n, x.give(-1, n), false);
            Check.due("2: none came of " + n, x.look(2), 0);
        }
    }

    private static void giveTakesTheLowestHighestFirst() {
        for (long v : new long[] {0x0123456789abcdefL, 0xfedcba9876543210L, -1, Long.MIN_VALUE, Long.MAX_VALUE, 128}) {
            for (int n = 1; n <= 8; n++) {
                StackBytes x = new StackBytes();
                x.give(7, 1);
                x.give(v, n);
                Check.due("2: they come behind", x.byteAt(0, true), 7);
                for (int k = 0; k < n; k++) {
                    long due = v >>> 8 * (n - 1 - k) & 255;
                    Check.due("2: the highest first (of its lowest " + n + "): " + k, x.byteAt(1 + k, true), due);
                }
                Check.due("2: no more than " + n, x.byteAt(1 + n, true), NONE);
            }
        }
    }

    private static void giveUpTo4096() {
        StackBytes x = new StackBytes();
        for (int k = 0; k < 512; k++) {
            Check.due("2: up to 4096: true, the " + k + "th", x.give(k, 8), true);
        }
        // From here on no answer is promised; the limit is to hold all the same.
        Check.due("2: 4096", x.look(2), 4096);
        Check.due("2: the last", x.byteAt(4095, true), 511 & 255);
    }

    private static void giveWithoutRoom() {
        for (int left = 0; left <= 8; left++) {
            StackBytes x = new StackBytes();
            for (int k = 0; k < 511; k++) {
                x.give(0, 8);
            }
            for (int k = 0; k < 8 - left; k++) {
                x.give(0, 1);
            }
            if (left < 8) {
                Check.due("2: false if there is no room, " + left + " are left", x.give(-1, left + 1), false);
                Check.due("2: nothing has changed", x.look(2), 4096 - left);
            }
            if (left > 0) {
                Check.due("2: true if there is room, " + left + " are left", x.give(-1, left), true);
                Check.due("2: full", x.look(2), 4096);
            }
        }
    }

    private static StackBytes fiveBytes() {
        StackBytes x = new StackBytes();
        x.give(0x1112131415L, 5);
        return x;
    }

    private static void cutKeepsTheFirst() {
        for (int n = 0; n <= 5; n++) {
            StackBytes x = fiveBytes();
            Check.due("3: the first n BYTES alone: true: " + n, x.cut(n), true);
            Check.due("3: so many", x.look(2), n);
            for (int k = 0; k < 5; k++) {
                Check.due("3: byte " + k + " of " + n, x.byteAt(k, true), k < n ? 0x11 + k : NONE);
            }
            x.give(9, 1);
            Check.due("3: given behind these", x.byteAt(n, true), 9);
        }
    }

    private static void cutOfFewer() {
        for (int n : new int[] {6, 7, 64, 4096, 4097, Edge.MAX}) {
            StackBytes x = fiveBytes();
            Check.due("3: false if there are fewer: " + n, x.cut(n), false);
            Check.due("3: as many as before", x.look(2), 5);
        }
        StackBytes x = fiveBytes();
        x.cut(2);
        Check.due("3: what is cut does not come back", x.cut(3), false);
    }

    private static void cutBelowNone() {
        for (int n : new int[] {-1, -5, Edge.MIN}) {
            StackBytes x = fiveBytes();
            Check.due("3: false if n is below 0: " + n, x.cut(n), false);
            Check.due("3: as many as before", x.look(2), 5);
        }
    }

    private static void pokeTakesEightBits() {
        for (int b : new int[] {0, 1, 127, 128, 255, 256, 257, -1, -128, -129, -256, Edge.MIN, Edge.MAX}) {
            for (int k : new int[] {0, 2, 4}) {
                StackBytes x = fiveBytes();
                Check.due("4: BYTE " + k + " is " + b + ": true", x.poke(k, b), true);
                for (int j = 0; j < 5; j++) {
                    int due = j == k ? b & 255 : 0x11 + j;
                    Check.due("4: its lowest eight bits, of " + b + " at " + k + ": " + j, x.byteAt(j, true), due);
                }
                Check.due("4: as many as before", x.look(2), 5);
            }
        }
    }

    private static void pokeOfNone() {
        for (int k : new int[] {-1, 5, 6, 63, 64, 4095, 4096, Edge.MIN, Edge.MAX}) {
            StackBytes x = fiveBytes();
            Check.due("4: false if there is none such: " + k, x.poke(k, 1), false);
            Check.due("4: as many as before", x.look(2), 5);
            Check.due("4: it does not come", x.byteAt(k, true), NONE);
        }
        StackBytes x = fiveBytes();
        x.cut(4);
        Check.due("4: none such, cut away", x.poke(4, 1), false);
        Check.due("4: the last one that is left", x.poke(3, 1), true);
    }

    private static void writtenAreReplaced() {
        StackBytes x = Edge.right("6", ProgramBytes.oneFunction(0, 0, 0, 3, 0, 1, 2, 3, 4, 29, 1, 27));
        Check.due("6: how many", x.write(), 20);
        Check.due("6: twice", x.write(), 20);
        Check.due("6: how many, by look", x.look(3), 20);
        Edge.readAgain(x, "6", Edge.RETURNS, 0, NONE);
        Check.due("6: WRITTEN stay until the next write", x.look(3), 20);
        Check.due("6: a shorter one", x.write(), 13);
        Check.due("6: the last", x.byteAt(12, false), 0);
        Check.due("6: none of the longer ones is left", x.byteAt(13, false), NONE);
    }

    private static void turnOverOfNone() {
        StackBytes x = fiveBytes();
        Check.due("7: none are WRITTEN: true", x.turnOver(), true);
        Check.due("7: none then", x.look(2), 0);
        Check.due("7: no byte", x.byteAt(0, true), NONE);
    }

    private static void turnOverReplaces() {
        for (int n = 0; n <= 24; n += 8) {
            StackBytes x = new StackBytes();
            for (int k = 0; k < n; k += 8) {
                x.give(-1, 8);
            }
            x.write();
            Check.due("7: true, there were " + n, x.turnOver(), true);
            Check.due("7: as many as are WRITTEN", x.look(2), 13);
            for (int k = 0; k < 13; k++) {
                Check.due("7: byte " + k, x.byteAt(k, true), Edge.RETURNS[k]);
            }
            Check.due("7: none behind", x.byteAt(13, true), NONE);
            Check.due("7: WRITTEN are there still", x.look(3), 13);
            x.poke(0, 1);
            Check.due("7: they are not the same ones", x.byteAt(0, false), 71);
        }
    }

    /** More are WRITTEN than there have ever been BYTES. */
    private static void turnOverOfMore() {
        int[] ops = new int[100];
        Arrays.fill(ops, ProgramBytes.RETURN);
        StackBytes x = Edge.right("7", ProgramBytes.oneFunction(0, 0, 0, 100, ops));
        for (int i = 1; i < 100; i++) {
            x.change(0, i, ProgramBytes.PUSH, i);
        }
        Check.due("7: five times as many", x.write(), 13 + 5 * 99);
        Check.due("7: true", x.turnOver(), true);
        Check.due("7: so many BYTES", x.look(2), 13 + 5 * 99);
        for (int i = 1; i < 100; i++) {
            Check.due("7: BYTE of PUSH " + i, x.byteAt(11 + 5 * i, true), i);
        }
        Check.due("7: read again", x.read(), 0);
    }

    /** No 512 calls lead to more than 4096; the limit is to hold all the same. */
    private static void turnOverUpTo4096() {
        ProgramBytes made = new ProgramBytes(10);
        for (int f = 0; f < 10; f++) {
            made.head(0, 0, 0, 0, 400).op(ProgramBytes.RETURN);
            for (int i = 1; i < 400; i++) {
                made.op(ProgramBytes.POP);
            }
            made.handlers(0);
        }
        StackBytes x = Edge.right("7", made.bytes());
        for (int i = 1; i <= 3; i++) {
            x.change(0, i, ProgramBytes.PUSH, i);
        }
        Check.due("7: 4096 WRITTEN", x.write(), 4096);
        Check.due("7: true for 4096", x.turnOver(), true);
        Check.due("7: 4096 BYTES", x.look(2), 4096);
        Check.due("7: read again", x.read(), 0);
        x.change(9, 399, ProgramBytes.GUARD, 5);
        Check.due("7: 4097 WRITTEN", x.write(), 4097);
        Check.due("7: false if there are more than 4096", x.turnOver(), false);
        Check.due("7: nothing has changed", x.look(2), 4096);
        Check.due("7: the last BYTE but one", x.byteAt(4094, true), ProgramBytes.POP);
        Check.due("7: the last WRITTEN one but one", x.byteAt(4095, false), 5);
    }

    private static void byteAtEdges() {
        StackBytes x = new StackBytes();
        x.give(0x7f80ff00L, 4);
        int[] bytes = {127, 128, 255, 0};
        for (int k = 0; k < 4; k++) {
            Check.due("12: BYTE " + k, x.byteAt(k, true), bytes[k]);
            Check.due("12: NONE if there is none: none are WRITTEN", x.byteAt(k, false), NONE);
        }
        x.write();
        x.cut(0);
        for (int k = 0; k < 13; k++) {
            Check.due("12: WRITTEN " + k, x.byteAt(k, false), Edge.RETURNS[k]);
            Check.due("12: NONE if there is none: there are no BYTES", x.byteAt(k, true), NONE);
        }
        for (int k : new int[] {-1, 13, 63, 64, 4095, 4096, Edge.MIN, Edge.MAX}) {
            Check.due("12: NONE if there is none: WRITTEN " + k, x.byteAt(k, false), NONE);
            Check.due("12: NONE if there is none: BYTE " + k, x.byteAt(k, true), NONE);
        }
    }
}
