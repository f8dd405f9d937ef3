import java.util.Arrays;

/** The promises one by one: ordinary inputs, the edges that the document names, wrong inputs. */
public final class PromiseTest {
    private static final int NONE = StackBytes.NONE;

    public static void main(String[] args) {
        newObject();
        give();
        cut();
        poke();
        readFaultsOfBytes();
        readFaultsOfHandlers();
        readTypes();
        readStackLimit();
        readFlow();
        readShorter();
        readBehindFault();
        readHandlerFlow();
        readCalls();
        readKeepsProgram();
        write();
        turnOver();
        change();
        changeWrong();
        code();
        function();
        handler();
        byteAt();
        look();
        Check.end();
    }

    private static void newObject() {
        StackBytes x = new StackBytes();
        Check.due("1: NONE", StackBytes.NONE, -1);
        int[] looks = {1, 1, 0, 0, 0, NONE};
        for (int which = 0; which < looks.length; which++) {
            Check.due("1: look " + which, x.look(which), looks[which]);
        }
        int[] functions = {0, 0, 0, 0, 1, 0, 1, 0};
        for (int what = 0; what < functions.length; what++) {
            Check.due("1: function " + what, x.function(0, what), functions[what]);
        }
        int[] codes = {27, 0, 0, 0, 0};
        for (int what = 0; what < codes.length; what++) {
            Check.due("1: code " + what, x.code(0, 0, what), codes[what]);
        }
        Check.due("1: bytes", x.byteAt(0, true), NONE);
        Check.due("1: written", x.byteAt(0, false), NONE);
    }

    private static void give() {
        StackBytes x = new StackBytes();
        for (int n : new int[] {0, -1, 9, Integer.MIN_VALUE, Integer.MAX_VALUE}) {
            Check.due("2: give of " + n, x.give(1, n), false);
        }
        Check.due("2: none came", x.look(2), 0);
        Check.due("2: give 3", x.give(0x1122334455667788L, 3), true);
        Check.due("2: highest of the lowest", x.byteAt(0, true), 0x66);
        Check.due("2: middle", x.byteAt(1, true), 0x77);
        Check.due("2: lowest", x.byteAt(2, true), 0x88);
        Check.due("2: give 8", x.give(-2, 8), true);
        Check.due("2: first of 8", x.byteAt(3, true), 255);
        Check.due("2: last of 8", x.byteAt(10, true), 254);
        Check.due("2: give 1", x.give(256, 1), true);
        Check.due("2: one byte", x.byteAt(11, true), 0);
        x.cut(0);
        for (int k = 0; k < 511; k++) {
            Check.due("2: fill", x.give(k, 8), true);
        }
        Check.due("2: 7 more", x.give(-1, 7), true);
        Check.due("2: 2 more are too many", x.give(-1, 2), false);
        Check.due("2: as it was", x.look(2), 4095);
        Check.due("2: the last one", x.give(5, 1), true);
        Check.due("2: full", x.look(2), 4096);
        Check.due("2: no room", x.give(5, 1), false);
        Check.due("2: place 15", x.byteAt(15, true), 1);
        Check.due("2: place 4087", x.byteAt(4087, true), 510 & 255);
        Check.due("2: place 4095", x.byteAt(4095, true), 5);
        Check.due("2: place 4096", x.byteAt(4096, true), NONE);
    }

    private static void cut() {
        StackBytes x = new StackBytes();
        Check.due("3: cut 1 of none", x.cut(1), false);
        Check.due("3: cut 0 of none", x.cut(0), true);
        x.give(0x010203, 3);
        Check.due("3: below 0", x.cut(-1), false);
        Check.due("3: far below 0", x.cut(Integer.MIN_VALUE), false);
        Check.due("3: fewer", x.cut(4), false);
        Check.due("3: as it was", x.look(2), 3);
        Check.due("3: all stay", x.cut(3), true);
        Check.due("3: three", x.look(2), 3);
        Check.due("3: two stay", x.cut(2), true);
        Check.due("3: two", x.look(2), 2);
        Check.due("3: first stays", x.byteAt(0, true), 1);
        Check.due("3: second stays", x.byteAt(1, true), 2);
        Check.due("3: third is gone", x.byteAt(2, true), NONE);
        x.give(9, 1);
        Check.due("3: given behind", x.byteAt(2, true), 9);
    }

    private static void poke() {
        StackBytes x = new StackBytes();
        Check.due("4: none there", x.poke(0, 1), false);
        x.give(0x010203, 3);
        Check.due("4: below 0", x.poke(-1, 1), false);
        Check.due("4: behind", x.poke(3, 1), false);
        Check.due("4: far behind", x.poke(Integer.MAX_VALUE, 1), false);
        Check.due("4: the first", x.poke(0, 17), true);
        Check.due("4: the first is another", x.byteAt(0, true), 17);
        Check.due("4: back", x.poke(0, 1), true);
        Check.due("4: lowest eight bits", x.poke(1, 0x1234), true);
        Check.due("4: so it is", x.byteAt(1, true), 0x34);
        Check.due("4: of -1", x.poke(2, -1), true);
        Check.due("4: 255", x.byteAt(2, true), 255);
        Check.due("4: first stays", x.byteAt(0, true), 1);
        Check.due("4: still three", x.look(2), 3);
        x.cut(1);
        Check.due("4: cut away", x.poke(1, 1), false);
    }

    private static void expect(String what, byte[] bytes, int fault, int place) {
        StackBytes x = new StackBytes();
        expect(x, what, bytes, fault, place);
    }

    private static void expect(StackBytes x, String what, byte[] bytes, int fault, int place) {
        ProgramBytes.load(x, bytes);
        Check.due("5: " + what, x.read(), fault);
        Check.due("5: the fault of " + what, x.look(4), fault);
        Check.due("5: the place of " + what, x.look(5), place);
    }

    private static byte[] with(byte[] bytes, int k, int b) {
        byte[] made = bytes.clone();
        made[k] = (byte) b;
        return made;
    }

    private static byte[] first(byte[] bytes, int n) {
        return Arrays.copyOf(bytes, n);
    }

    /** All kinds of numbers; FUNCTION 1 begins at 27. */
    private static byte[] manyNumbers() {
        return new ProgramBytes(2)
            .head(0, 2, 2, 1, 3)
            .op(ProgramBytes.PUSH, 7)
            .op(ProgramBytes.JUMP, 2)
            .op(ProgramBytes.RETURN)
            .handlers(1).handlerForAny(0, 3, 2)
            .head(1, 2, 1, 2, 7)
            .op(ProgramBytes.LOAD, 0)
            .op(ProgramBytes.STORE, 0)
            .op(ProgramBytes.CALL, 0)
            .op(ProgramBytes.HOST, 13)
            .op(ProgramBytes.GUARD, 1)
            .op(ProgramBytes.LOAD, 0)
            .op(ProgramBytes.RETURN)
            .handlers(1).handlerFor(0, 7, 4, -5)
            .bytes();
    }

    private static void readFaultsOfBytes() {
        byte[] simple = ProgramBytes.oneFunction(0, 0, 0, 1, 27);
        expect("a program", simple, 0, NONE);
        expect("many numbers", manyNumbers(), 0, NONE);
        for (int n = 0; n < simple.length; n++) {
            expect("the first " + n, first(simple, n), 1, n);
        }
        byte[] many = manyNumbers();
        for (int n = 0; n < many.length; n++) {
            expect("the first " + n + " of many", first(many, n), 1, n);
        }
        for (int k = 0; k < 3; k++) {
            expect("another start at " + k, with(simple, k, 9), 2, k);
            expect("another start, and cut, at " + k, first(with(simple, k, 9), k + 1), 2, k);
        }
        expect("one left", Arrays.copyOf(simple, simple.length + 1), 4, simple.length);
        expect("three left", Arrays.copyOf(simple, simple.length + 3), 4, simple.length);
        expect("left, before it is verified", Arrays.copyOf(with(simple, 11, 1), simple.length + 1), 4, 13);
        int[][] wrong = {{3, 0, 3}, {3, 13, 3}, {4, 1, 4}, {5, 13, 5}, {6, 1, 6}, {7, 4, 6}, {8, 2, 8}, {8, 255, 8},
            {9, 2, 9}, {11, 30, 11}, {11, 255, 11}, {16, 30, 16}, {18, 3, 17}, {17, 1, 17}, {20, 7, 20},
            {28, 5, 28}, {29, 0, 29}, {29, 13, 29}, {31, 4, 30}, {32, 3, 32}, {36, 2, 36}, {38, 2, 38}, {40, 2, 40},
            {42, 16, 42}, {44, 16, 44}, {55, 2, 55}};
        for (int[] row : wrong) {
            expect("byte " + row[0] + " is " + row[1], with(many, row[0], row[1]), 3, row[2]);
        }
        expect("no instructions", ProgramBytes.oneFunction(0, 0, 0, 0), 3, 9);
        expect("401 instructions", ProgramBytes.oneFunction(0, 0, 0, 401, new int[401]), 3, 9);
        int[] longest = new int[800];
        for (int k = 0; k < 798; k += 2) {
            longest[k] = 29;
        }
        longest[798] = 27;
        expect("400 instructions", ProgramBytes.oneFunction(0, 0, 0, 400, Arrays.copyOf(longest, 799)), 0, NONE);
        expect("12 locals", ProgramBytes.oneFunction(12, 0xfff, 0, 1, 27), 0, NONE);
        expect("a row above 12 locals", ProgramBytes.oneFunction(12, 0x1000, 0, 1, 27), 3, 6);
        expect("a half number at the end", first(with(simple, 9, 255), 10), 1, 10);
        expect("load without locals", ProgramBytes.oneFunction(0, 0, 0, 2, 4, 0, 27), 3, 12);
        expect("twelve functions", functions(12), 0, NONE);
        expect("thirteen functions", functions(13), 3, 3);
    }

    private static byte[] functions(int n) {
        ProgramBytes made = new ProgramBytes(n);
        for (int f = 0; f < n; f++) {
            made.head(f == 0 ? 0 : 4, 4, 0, 0, 1).op(ProgramBytes.RETURN).handlers(0);
        }
        return made.bytes();
    }

    private static ProgramBytes threeGuards() {
        return new ProgramBytes(1).head(0, 0, 0, 0, 3).op(29, 0).op(29, 0).op(27);
    }

    private static void readFaultsOfHandlers() {
        ProgramBytes six = threeGuards().handlers(6);
        ProgramBytes seven = threeGuards().handlers(7);
        for (int k = 0; k < 7; k++) {
            if (k < 6) {
                six.handlerForAny(0, 1, 2);
            }
            seven.handlerForAny(0, 1, 2);
        }
        expect("six handlers", six.bytes(), 7, 2);
        expect("seven handlers", seven.bytes(), 3, 16);
        expect("from is too great", threeGuards().handlers(1).handlerForAny(3, 4, 2).bytes(), 3, 17);
        expect("to is not above from", threeGuards().handlers(1).handlerForAny(1, 1, 2).bytes(), 3, 19);
        expect("to is too great", threeGuards().handlers(1).handlerForAny(1, 4, 2).bytes(), 3, 19);
        expect("target is too great", threeGuards().handlers(1).handlerForAny(1, 3, 3).bytes(), 3, 21);
        expect("neither any nor a code", threeGuards().handlers(1).two(1).two(3).two(2).one(2).bytes(), 3, 23);
        expect("no code", threeGuards().handlers(1).two(1).two(3).two(2).one(1).one(0).bytes(), 1, 25);
    }

    /** INSTRUCTIONS behind a stack that is put together from types ('i' and 'r'), and then RETURN. */
    private static byte[] behindStack(String types, int... opAndBehind) {
        ProgramBytes made = new ProgramBytes(1).head(0, 2, 2, 0, types.length() + 2);
        for (int k = 0; k < types.length(); k++) {
            made.op(ProgramBytes.LOAD, types.charAt(k) == 'r' ? 1 : 0);
        }
        for (int b : opAndBehind) {
            made.one(b);
        }
        return made.op(ProgramBytes.RETURN).handlers(0).bytes();
    }

    /** op is right on right, and leaves left there; it is wrong on each of wrong. */
    private static void types(int op, int behind, String right, String left, String... wrong) {
        int[] codeBytes = behind == NONE ? new int[] {op} : new int[] {op, behind};
        StackBytes x = new StackBytes();
        expect(x, "op " + op + " on " + right, behindStack(right, codeBytes), 0, NONE);
        int rows = 0;
        for (int k = 0; k < left.length(); k++) {
            rows |= left.charAt(k) == 'r' ? 1 << k : 0;
        }
        Check.due("5: left by op " + op, x.code(0, right.length() + 1, 2), left.length());
        Check.due("5: types left by op " + op, x.code(0, right.length() + 1, 3), rows);
        for (String types : wrong) {
            expect("op " + op + " on " + types, behindStack(types, codeBytes), 5, types.length());
        }
    }

    private static void readTypes() {
        StackBytes x = new StackBytes();
        expect(x, "push", ProgramBytes.oneFunction(0, 0, 0, 2, 0, 255, 255, 255, 254, 27), 0, NONE);
        Check.due("5: push", x.code(0, 0, 1), -2);
        Check.due("5: pushed", x.code(0, 1, 2), 1);
        types(1, NONE, "ir", "i", "");
        types(1, NONE, "ri", "r", "");
        types(2, NONE, "r", "rr", "");
        types(2, NONE, "ri", "rii", "");
        types(3, NONE, "ri", "ir", "", "i", "r");
        types(3, NONE, "iir", "iri", "");
        types(4, 0, "r", "ri");
        types(4, 1, "i", "ir");
        types(5, 0, "ri", "r", "", "r", "ir");
        types(5, 1, "ir", "i", "", "i", "ri");
        for (int op = 6; op <= 17; op++) {
            types(op, NONE, "rii", "ri", "", "i", "ri", "ir", "r");
        }
        types(21, NONE, "ii", "ir", "", "r");
        types(22, NONE, "iri", "ii", "", "r", "i", "ii", "rr");
        types(23, NONE, "irii", "i", "", "ii", "iii", "rri", "rir", "ri");
        types(24, NONE, "ir", "ii", "", "i", "ri");
        types(26, 0, "r", "ri");
        types(26, 1, "ri", "ri", "", "r");
        types(26, 14, "rii", "ri", "", "i", "ri", "ir");
        types(26, 15, "riii", "ri", "ii", "rii");
        types(29, 12, "r", "r");
        types(29, 5, "ri", "ri", "", "r");
        types(29, 2, "rii", "rii", "i", "ri", "ir");
        types(29, 3, "riii", "riii", "ii", "rii", "iir");
        expect("throw of nothing", ProgramBytes.oneFunction(0, 0, 0, 1, 28), 5, 0);
        expect("throw of an int", behindStack("ii", 28), 0, NONE);
        expect("throw of a row", behindStack("ir", 28), 5, 2);
        expect("if of nothing", ProgramBytes.oneFunction(0, 0, 0, 2, 19, 0, 1, 27), 5, 0);
        expect("if of a row", behindStack("r", 19, 0, 2), 5, 1);
        expect("ifnot of a row", behindStack("r", 20, 0, 2), 5, 1);
        expect("ifnot of an int", behindStack("i", 20, 0, 2), 0, NONE);
        expect("result from nothing", ProgramBytes.oneFunction(0, 0, 1, 1, 27), 5, 0);
        expect("result of a row", ProgramBytes.oneFunction(1, 1, 1, 2, 4, 0, 27), 5, 1);
        expect("result of an int", ProgramBytes.oneFunction(2, 1, 1, 3, 4, 0, 4, 1, 27), 0, NONE);
    }

    private static void readStackLimit() {
        String sixteen = "iiiiiiiiiiiiiiii";
        String fifteen = "iiiiiiiiiiiiiii";
        StackBytes x = new StackBytes();
        expect(x, "sixteen", behindStack(sixteen, 29, 0), 0, NONE);
        Check.due("10: sixteen", x.function(0, 7), 16);
        expect(x, "sixteen rows", behindStack("rrrrrrrrrrrrrrrr", 29, 0), 0, NONE);
        Check.due("9: sixteen rows", x.code(0, 17, 3), 65535);
        expect("load of the 17th", behindStack(sixteen, 4, 0), 6, 16);
        expect("load of the 16th", behindStack(fifteen, 4, 0), 0, NONE);
        expect("push of the 17th", behindStack(sixteen, 0, 0, 0, 0, 1), 6, 16);
        expect("dup of the 17th", behindStack(sixteen, 2), 6, 16);
        expect("dup of the 16th", behindStack(fifteen, 2), 0, NONE);
        expect("swap at 16", behindStack(sixteen, 3), 0, NONE);
        expect("host 0 at 16", behindStack(sixteen, 26, 4), 6, 16);
        expect("host 1 at 16", behindStack(sixteen, 26, 5), 0, NONE);
        expect("new at 16", behindStack(sixteen, 21), 0, NONE);
        expect("types before the limit", behindStack(sixteen, 24), 5, 16);
    }

    private static void readFlow() {
        expect("none behind", ProgramBytes.oneFunction(0, 0, 0, 1, 29, 0), 8, 0);
        expect("none behind if", ProgramBytes.oneFunction(0, 0, 0, 2, 26, 0, 19, 0, 0), 8, 1);
        expect("t before none behind", ProgramBytes.oneFunction(0, 0, 0, 2, 26, 0, 19, 0, 1), 7, 1);
        expect("jump at the end", ProgramBytes.oneFunction(0, 0, 0, 2, 29, 0, 18, 0, 0), 0, NONE);
        expect("jump to itself", ProgramBytes.oneFunction(0, 0, 0, 1, 18, 0, 0), 0, NONE);
        expect("a loop that grows", ProgramBytes.oneFunction(0, 0, 0, 2, 26, 0, 18, 0, 0), 7, 0);
        expect("none is looked at twice", ProgramBytes.oneFunction(0, 0, 0, 3, 18, 0, 2, 6, 27), 0, NONE);
        // Behind IF 3 both 2 (DUP of nothing) and 3 (POP of nothing) wait.
        expect("the least first", ProgramBytes.oneFunction(0, 0, 0, 5, 26, 0, 19, 0, 3, 2, 1, 27), 5, 2);
        // 2 jumps back to 1, which waits then together with 4: 1 comes first though 4 waits longer.
        expect("the least first, backwards",
            ProgramBytes.oneFunction(0, 0, 0, 6, 18, 0, 2, 1, 26, 0, 19, 0, 1, 1, 27), 5, 1);
        expect("other types with as many", behindFork(), 7, 5);
        expect("sooner places win, not sooner faults", new ProgramBytes(2)
            .head(0, 0, 0, 0, 1).op(27).handlers(0)
            .head(0, 0, 0, 0, 2).op(29, 0).op(1).handlers(0).bytes(), 5, 513);
        expect("the first function of two", new ProgramBytes(2)
            .head(0, 0, 0, 0, 1).op(1).handlers(0)
            .head(0, 0, 0, 0, 1).op(2).handlers(0).bytes(), 5, 0);
        StackBytes x = new StackBytes();
        expect(x, "never come to", ProgramBytes.oneFunction(0, 0, 0, 3, 18, 0, 2, 6, 27), 0, NONE);
        Check.due("9: never come to", x.code(0, 1, 2), NONE);
        Check.due("9: no rows there", x.code(0, 1, 3), 0);
        Check.due("9: gone to from the first", x.code(0, 2, 4), 1);
        Check.due("10: come to", x.function(0, 6), 2);
    }

    /** What was held for a longer program must not be seen in a shorter one behind it. */
    private static void readShorter() {
        StackBytes x = new StackBytes();
        byte[] deepAndBack = ProgramBytes.oneFunction(0, 0, 0, 4, 29, 0, 26, 0, 19, 0, 0, 27);
        byte[] brief = ProgramBytes.oneFunction(0, 0, 0, 2, 29, 0, 27);
        for (byte[] bytes : new byte[][] {deepAndBack, deepAndBack, brief}) {
            expect(x, "longer, then shorter", bytes, 0, NONE);
        }
        Check.due("9: no jump from behind the end", x.code(0, 0, 4), 0);
        Check.due("10: none deeper behind the end", x.function(0, 7), 0);
        Check.due("10: none come to behind the end", x.function(0, 6), 2);
    }

    /** What waited when a fault was found waits no more in what is verified next. */
    private static void readBehindFault() {
        StackBytes x = new StackBytes();
        expect(x, "3 is left waiting", ProgramBytes.oneFunction(0, 0, 0, 4, 26, 0, 19, 0, 3, 1, 27), 5, 2);
        expect(x, "3 is never come to", ProgramBytes.oneFunction(0, 0, 0, 4, 29, 0, 29, 0, 27, 6), 0, NONE);
        Check.due("10: three come to", x.function(0, 6), 3);
    }

    /** 5 is come to with a ROW and with an INT. */
    private static byte[] behindFork() {
        return new ProgramBytes(1).head(0, 2, 2, 0, 6)
            .op(ProgramBytes.LOAD, 0).op(ProgramBytes.IF, 4)
            .op(ProgramBytes.LOAD, 1).op(ProgramBytes.JUMP, 5)
            .op(ProgramBytes.LOAD, 0)
            .op(ProgramBytes.RETURN).handlers(0).bytes();
    }

    private static void readHandlerFlow() {
        StackBytes x = new StackBytes();
        expect(x, "a handler", new ProgramBytes(1).head(0, 0, 0, 0, 4)
            .op(29, 0).op(27).op(1).op(27).handlers(1).handlerForAny(0, 1, 2).bytes(), 0, NONE);
        Check.due("9: a handler's target", x.code(0, 2, 2), 1);
        Check.due("9: gone to by a handler", x.code(0, 2, 4), 1);
        expect(x, "a handler out of range", new ProgramBytes(1).head(0, 0, 0, 0, 4)
            .op(18, 1).op(27).op(1).op(27).handlers(1).handlerForAny(2, 4, 2).bytes(), 0, NONE);
        Check.due("9: its target is never come to", x.code(0, 2, 2), NONE);
        Check.due("9: but it goes there", x.code(0, 2, 4), 1);
        expect("a handler's target is 0", new ProgramBytes(1).head(0, 0, 0, 0, 1)
            .op(27).handlers(1).handlerForAny(0, 1, 0).bytes(), 7, 0);
        expect("types before handlers", new ProgramBytes(1).head(0, 0, 0, 0, 1)
            .op(1).handlers(1).handlerForAny(0, 1, 0).bytes(), 5, 0);
        expect("handlers before none behind", new ProgramBytes(1).head(0, 0, 0, 0, 1)
            .op(29, 0).handlers(1).handlerForAny(0, 1, 0).bytes(), 7, 0);
        expect("handlers before what is next", new ProgramBytes(1).head(0, 0, 0, 0, 3)
            .op(18, 2).op(27).op(27).handlers(1).handlerForAny(0, 1, 2).bytes(), 7, 2);
        expect("return in the range", new ProgramBytes(1).head(0, 0, 0, 0, 3)
            .op(29, 0).op(27).op(6).handlers(1).handlerForAny(1, 2, 2).bytes(), 5, 2);
        expect("to is not in the range", new ProgramBytes(1).head(0, 0, 0, 0, 3)
            .op(29, 0).op(27).op(6).handlers(1).handlerForAny(2, 3, 2).bytes(), 0, NONE);
        expect("to is not in the range, though it is come to", new ProgramBytes(1).head(0, 0, 0, 0, 4)
            .op(18, 2).op(27).op(27).op(6).handlers(1).handlerForAny(1, 2, 3).bytes(), 0, NONE);
        // The first of the two is told: its target has one INT already, from the handler that stands before it.
        expect("handlers in their order", new ProgramBytes(1).head(0, 1, 1, 0, 4)
            .op(4, 0).op(18, 3).op(27).op(27).handlers(2).handlerFor(1, 2, 2, 4).handlerFor(1, 2, 1, 5).bytes(), 7, 1);
        expect("handlers in their order, the other way", new ProgramBytes(1).head(0, 1, 1, 0, 3)
            .op(4, 0).op(18, 2).op(27).handlers(2).handlerFor(1, 2, 0, 4).handlerFor(1, 2, 1, 5).bytes(), 7, 0);
    }

    private static void readCalls() {
        StackBytes x = new StackBytes();
        ProgramBytes made = new ProgramBytes(3)
            .head(0, 2, 2, 0, 6)
            .op(ProgramBytes.LOAD, 0).op(ProgramBytes.LOAD, 1).op(ProgramBytes.CALL, 1)
            .op(ProgramBytes.SIZE).op(ProgramBytes.CALL, 2).op(ProgramBytes.RETURN).handlers(0)
            .head(2, 3, 6, 2, 2).op(ProgramBytes.LOAD, 2).op(ProgramBytes.RETURN).handlers(0)
            .head(0, 0, 0, 0, 1).op(ProgramBytes.RETURN).handlers(0);
        expect(x, "calls", made.bytes(), 0, NONE);
        Check.due("5: the call's params", x.code(0, 2, 3), 2);
        Check.due("5: the call's result", x.code(0, 3, 2), 1);
        Check.due("5: the call's result is a row", x.code(0, 3, 3), 1);
        Check.due("5: a call without a result", x.code(0, 5, 2), 1);
        expect("params the other way", with(with(made.bytes(), 12, 1), 14, 0), 5, 2);
        expect("a row is not returned", with(with(made.bytes(), 25, 2), 26, 1), 5, 3);
        expect("itself", new ProgramBytes(1).head(0, 0, 0, 1, 2).op(25, 0).op(27).handlers(0).bytes(), 0, NONE);
        expect("too few params", new ProgramBytes(2).head(0, 0, 0, 0, 3).op(26, 0).op(25, 1).op(27).handlers(0)
            .head(2, 2, 0, 0, 1).op(27).handlers(0).bytes(), 5, 1);
    }

    private static void readKeepsProgram() {
        StackBytes x = new StackBytes();
        ProgramBytes.load(x, manyNumbers());
        Check.due("5: many", x.read(), 0);
        int[] before = answers(x);
        for (byte[] bad : new byte[][] {new byte[0], with(manyNumbers(), 55, 2), behindStack("r", 6),
            new ProgramBytes(2).head(0, 0, 0, 0, 1).op(27).handlers(0).head(0, 0, 0, 0, 1).op(1).handlers(0).bytes()}) {
            ProgramBytes.load(x, bad);
            Check.due("5: there is a fault", x.read() != 0, true);
            Check.due("5: the BYTES stay", x.look(2), bad.length);
            same("5: as before", answers(x), before);
        }
        ProgramBytes.load(x, ProgramBytes.oneFunction(0, 0, 0, 1, 27));
        Check.due("5: a shorter one", x.read(), 0);
        Check.due("5: fault is gone", x.look(4), 0);
        Check.due("5: place is gone", x.look(5), NONE);
        Check.due("5: one function is left", x.look(0), 1);
        Check.due("5: none of the others", x.function(1, 0), NONE);
        Check.due("5: no handler of before", x.handler(0, 0, 2), 0);
    }

    private static int[] answers(StackBytes x) {
        StringBuilder all = new StringBuilder();
        for (int f = 0; f < 3; f++) {
            for (int what = 0; what < 9; what++) {
                all.append(x.function(f, what)).append(' ').append(x.handler(f, 0, what)).append(' ');
                for (int i = 0; i < 9; i++) {
                    all.append(x.code(f, i, what)).append(' ');
                }
            }
        }
        all.append(x.look(0)).append(' ').append(x.look(1));
        return Arrays.stream(all.toString().split(" ")).mapToInt(Integer::parseInt).toArray();
    }

    private static void same(String what, int[] got, int[] want) {
        Check.due(what + ", how many", got.length, want.length);
        for (int k = 0; k < want.length; k++) {
            Check.due(what + ", answer " + k, got[k], want[k]);
        }
    }

    private static void write() {
        StackBytes x = new StackBytes();
        Check.due("6: the new one", x.write(), 13);
        byte[] many = manyNumbers();
        ProgramBytes.load(x, many);
        Check.due("6: many are read", x.read(), 0);
        Check.due("6: written before", x.look(3), 13);
        Check.due("6: many", x.write(), many.length);
        for (int k = 0; k < many.length; k++) {
            Check.due("6: byte " + k, x.byteAt(k, false), many[k] & 255);
        }
        Check.due("6: no more", x.byteAt(many.length, false), NONE);
        x.change(0, 0, 0, 0x01020304);
        Check.due("6: written stays", x.byteAt(15, false), 7);
        Check.due("6: as many", x.write(), many.length);
        Check.due("6: written anew, first", x.byteAt(12, false), 1);
        Check.due("6: written anew, last", x.byteAt(15, false), 4);
        Check.due("6: BYTES stay", x.byteAt(15, true), 7);
        Check.due("6: shorter", x.change(0, 0, 26, 0), 0);
        Check.due("6: three fewer", x.write(), many.length - 3);
        Check.due("6: the end is gone", x.byteAt(many.length - 3, false), NONE);
    }

    private static void turnOver() {
        StackBytes x = new StackBytes();
        x.give(1, 5);
        Check.due("7: nothing written", x.turnOver(), true);
        Check.due("7: no bytes then", x.look(2), 0);
        x.write();
        Check.due("7: thirteen", x.turnOver(), true);
        Check.due("7: BYTES", x.look(2), 13);
        Check.due("7: WRITTEN stay", x.look(3), 13);
        Check.due("7: first", x.byteAt(0, true), 71);
        Check.due("7: op", x.byteAt(11, true), 27);
        x.poke(0, 9);
        Check.due("7: WRITTEN are others", x.byteAt(0, false), 71);
        x.turnOver();
        Check.due("7: once more", x.byteAt(0, true), 71);
        Check.due("7: read", x.read(), 0);
        x.give(1, 1);
        Check.due("7: a fault", x.read(), 4);
        x.turnOver();
        Check.due("7: fewer then", x.read(), 0);
        moreThanBefore();
        tooLong();
        longest();
    }

    private static void moreThanBefore() {
        StackBytes x = new StackBytes();
        int[] codes = new int[40];
        Arrays.fill(codes, ProgramBytes.POP);
        codes[0] = ProgramBytes.RETURN;
        ProgramBytes.load(x, ProgramBytes.oneFunction(0, 0, 0, 40, codes));
        Check.due("7: short", x.read(), 0);
        for (int i = 1; i < 40; i++) {
            x.change(0, i, ProgramBytes.PUSH, i);
        }
        Check.due("7: long", x.write(), 12 + 40 + 39 * 4);
        Check.due("7: turned over", x.turnOver(), true);
        Check.due("7: all of them", x.look(2), 12 + 40 + 39 * 4);
        Check.due("7: the last push", x.byteAt(12 + 40 + 39 * 4 - 2, true), 39);
        Check.due("7: read again", x.read(), 0);
    }

    private static byte[] fourThousand() {
        ProgramBytes made = new ProgramBytes(10);
        for (int f = 0; f < 10; f++) {
            made.head(0, 0, 0, 0, 400).op(ProgramBytes.RETURN);
            for (int i = 1; i < 400; i++) {
                made.op(ProgramBytes.POP);
            }
            made.handlers(0);
        }
        return made.bytes();
    }

    private static void longest() {
        StackBytes x = new StackBytes();
        ProgramBytes.load(x, fourThousand());
        x.read();
        for (int i = 1; i <= 3; i++) {
            x.change(0, i, ProgramBytes.PUSH, 1);
        }
        Check.due("7: 4096 bytes", x.write(), 4096);
        Check.due("7: are not too many", x.turnOver(), true);
        Check.due("7: 4096 BYTES", x.look(2), 4096);
        x.change(0, 4, ProgramBytes.GUARD, 0);
        Check.due("7: 4097 bytes", x.write(), 4097);
        Check.due("7: are too many", x.turnOver(), false);
    }

    /** More than 4096 need more calls than are promised, but must not break it. */
    private static void tooLong() {
        StackBytes x = new StackBytes();
        ProgramBytes.load(x, fourThousand());
        Check.due("7: four thousand instructions", x.read(), 0);
        Check.due("7: so many bytes", x.write(), 4084);
        for (int f = 0; f < 10; f++) {
            for (int i = 1; i < 400; i++) {
                x.change(f, i, ProgramBytes.PUSH, i);
            }
            if (f == 0) {
                Check.due("7: longer", x.write(), 4084 + 399 * 4);
                Check.due("7: too long", x.turnOver(), false);
                Check.due("7: BYTES stay", x.look(2), 4084);
            }
        }
        Check.due("7: much longer", x.write(), 4084 + 3990 * 4);
        Check.due("7: much too long", x.turnOver(), false);
        Check.due("7: the last byte", x.byteAt(4084 + 3990 * 4 - 2, false), 399 & 255);
    }

    private static void expectChange(StackBytes x, int f, int i, int op, int behind, int fault, int place) {
        String call = "8: change(" + f + ", " + i + ", " + op + ", " + behind + ")";
        Check.due(call, x.change(f, i, op, behind), fault);
        Check.due(call + "'s fault", x.look(4), fault);
        Check.due(call + "'s place", x.look(5), place);
    }

    private static void change() {
        StackBytes x = new StackBytes();
        ProgramBytes.load(x, manyNumbers());
        x.read();
        expectChange(x, 0, 0, ProgramBytes.PUSH, Integer.MIN_VALUE, 0, NONE);
        Check.due("8: behind", x.code(0, 0, 1), Integer.MIN_VALUE);
        expectChange(x, 0, 0, ProgramBytes.LOAD, 0, 0, NONE);
        Check.due("8: op", x.code(0, 0, 0), ProgramBytes.LOAD);
        int[] before = answers(x);
        expectChange(x, 0, 0, ProgramBytes.LOAD, 1, 7, 2);
        same("8: a row stays out", answers(x), before);
        expectChange(x, 0, 0, ProgramBytes.DUP, 0, 5, 0);
        same("8: a dup stays out", answers(x), before);
        expectChange(x, 1, 6, ProgramBytes.GUARD, 0, 8, 512 + 6);
        same("8: an end stays out", answers(x), before);
        expectChange(x, 1, 0, ProgramBytes.PUSH, 1, 5, 512 + 1);
        expectChange(x, 1, 6, ProgramBytes.POP, 0, 8, 512 + 6);
        expectChange(x, 1, 5, ProgramBytes.LOAD, 1, 5, 512 + 6);
        same("8: as it was", answers(x), before);
        expectChange(x, 0, 1, ProgramBytes.GUARD, 1, 0, NONE);
        Check.due("8: BYTES are as they were", x.byteAt(15, true), 7);
        StackBytes y = new StackBytes();
        ProgramBytes.load(y, behindStack("iiiiiiiiiiiiiii", 2));
        y.read();
        expectChange(y, 0, 14, ProgramBytes.GUARD, 3, 0, NONE);
        Check.due("8: one fewer", y.function(0, 7), 15);
        expectChange(y, 0, 16, ProgramBytes.JUMP, 0, 7, 0);
        expectChange(y, 0, 1, ProgramBytes.JUMP, 16, 0, NONE);
        Check.due("8: two are gone by", y.function(0, 6), 3);
        Check.due("8: never come to", y.code(0, 2, 2), NONE);
        Check.due("8: gone to", y.code(0, 16, 4), 1);
        expectChange(y, 0, 5, ProgramBytes.THROW, 0, 0, NONE);
        expectChange(y, 0, 1, ProgramBytes.GUARD, 0, 0, NONE);
        Check.due("8: up to the throw", y.function(0, 6), 6);
        stackFull();
        rowsGone();
    }

    private static void rowsGone() {
        StackBytes x = new StackBytes();
        ProgramBytes.load(x, behindStack("rr", 29, 0));
        x.read();
        Check.due("9: rows", x.code(0, 2, 3), 3);
        expectChange(x, 0, 0, ProgramBytes.JUMP, 3, 0, NONE);
        Check.due("9: no rows where it is never come to", x.code(0, 2, 3), 0);
        Check.due("9: nor on the way", x.code(0, 3, 3), 0);
    }

    private static void stackFull() {
        StackBytes x = new StackBytes();
        ProgramBytes.load(x, behindStack("iiiiiiiiiiiiiiii", 29, 0));
        x.read();
        expectChange(x, 0, 16, ProgramBytes.PUSH, 3, 6, 16);
        Check.due("8: it stays", x.code(0, 16, 0), ProgramBytes.GUARD);
    }

    private static void changeWrong() {
        StackBytes x = new StackBytes();
        ProgramBytes.load(x, manyNumbers());
        x.read();
        int[] before = answers(x);
        int[][] wrong = {{-1, 0, 27, 0}, {2, 0, 27, 0}, {0, -1, 27, 0}, {0, 3, 27, 0}, {0, 0, -1, 0}, {0, 0, 30, 0},
            {0, 0, 4, 2}, {0, 0, 4, -1}, {0, 0, 5, 2}, {0, 0, 18, 3}, {0, 0, 18, -1}, {0, 0, 19, 3}, {0, 0, 20, 3},
            {0, 0, 25, 2}, {0, 0, 25, -1}, {0, 0, 26, 16}, {0, 0, 26, -1}, {0, 0, 29, 16}, {0, 0, 29, -1},
            {Integer.MAX_VALUE, 0, 27, 0}, {0, Integer.MIN_VALUE, 27, 0}, {0, 0, Integer.MAX_VALUE, 0},
            {0, 0, 18, 65536}, {0, 0, 26, 256}};
        for (int[] row : wrong) {
            expectChange(x, row[0], row[1], row[2], row[3], 3, NONE);
        }
        for (int op = 0; op < 30; op++) {
            if (!ProgramBytes.hasBehind(op)) {
                expectChange(x, 0, 2, op, 1, 3, NONE);
                expectChange(x, 0, 2, op, -1, 3, NONE);
            }
        }
        same("8: none of these changes it", answers(x), before);
        expectChange(x, 0, 2, 27, 0, 0, NONE);
        same("8: nor what is there already", answers(x), before);
    }

    private static void code() {
        StackBytes x = new StackBytes();
        ProgramBytes.load(x, new ProgramBytes(1).head(0, 2, 2, 0, 8)
            .op(ProgramBytes.LOAD, 1).op(ProgramBytes.LOAD, 0).op(ProgramBytes.IF, 5)
            .op(ProgramBytes.POP).op(ProgramBytes.RETURN)
            .op(ProgramBytes.SIZE).op(ProgramBytes.THROW)
            .op(ProgramBytes.JUMP, 6)
            .handlers(1).handlerFor(5, 6, 6, 77).bytes());
        Check.due("9: read", x.read(), 0);
        int[][] due = {{4, 1, 0, 0, 0}, {4, 0, 1, 1, 0}, {19, 5, 2, 1, 0}, {1, 0, 1, 1, 0}, {27, 0, 0, 0, 0},
            {24, 0, 1, 1, 1}, {28, 0, 1, 0, 1}, {18, 6, NONE, 0, 0}};
        for (int i = 0; i < due.length; i++) {
            for (int what = 0; what < 5; what++) {
                Check.due("9: code(0, " + i + ", " + what + ")", x.code(0, i, what), due[i][what]);
            }
        }
        int[][] none = {{0, 8, 0}, {0, -1, 0}, {1, 0, 0}, {-1, 0, 0}, {0, 0, 5}, {0, 0, -1}, {0, 8, 2}, {0, 400, 2},
            {12, 0, 2}, {Integer.MIN_VALUE, 0, 2}, {0, Integer.MAX_VALUE, 2}, {0, 2, Integer.MIN_VALUE}};
        for (int[] row : none) {
            Check.due("9: none such", x.code(row[0], row[1], row[2]), 0);
        }
        x.change(0, 7, ProgramBytes.JUMP, 4);
        Check.due("9: a jump that is never come to goes there", x.code(0, 4, 4), 1);
        x.change(0, 2, ProgramBytes.GUARD, 1);
        Check.due("9: the if is gone", x.code(0, 5, 4), 0);
    }

    private static void function() {
        StackBytes x = new StackBytes();
        ProgramBytes.load(x, manyNumbers());
        x.read();
        int[][] due = {{0, 2, 2, 1, 3, 1, 3, 1}, {1, 2, 1, 2, 7, 1, 7, 2}};
        for (int f = 0; f < 2; f++) {
            for (int what = 0; what < 8; what++) {
                Check.due("10: function(" + f + ", " + what + ")", x.function(f, what), due[f][what]);
            }
        }
        x.change(1, 3, ProgramBytes.THROW, 0);
        x.change(0, 1, ProgramBytes.RETURN, 0);
        Check.due("10: come to by a handler alone", x.function(1, 6), 7);
        Check.due("10: come to", x.function(0, 6), 3);
        int[][] none = {{2, 0}, {-1, 0}, {0, 8}, {0, -1}, {12, 4}, {Integer.MAX_VALUE, 1}, {1, Integer.MIN_VALUE}};
        for (int[] row : none) {
            Check.due("10: none such", x.function(row[0], row[1]), NONE);
        }
    }

    private static void handler() {
        StackBytes x = new StackBytes();
        ProgramBytes.load(x, new ProgramBytes(2)
            .head(0, 0, 0, 0, 3).op(29, 0).op(27).op(27)
            .handlers(3).handlerForAny(0, 2, 2).handlerFor(1, 3, 2, -9).handlerFor(0, 3, 2, 0x01020304)
            .head(0, 0, 0, 0, 1).op(27).handlers(0).bytes());
        Check.due("11: handlers that come to themselves with one int", x.read(), 0);
        int[][] due = {{0, 2, 2, 1, 0}, {1, 3, 2, 0, -9}, {0, 3, 2, 0, 0x01020304}};
        for (int k = 0; k < due.length; k++) {
            for (int what = 0; what < 5; what++) {
                Check.due("11: handler(0, " + k + ", " + what + ")", x.handler(0, k, what), due[k][what]);
            }
        }
        int[][] none = {{0, 3, 1}, {0, -1, 1}, {0, 0, 5}, {0, 0, -1}, {1, 0, 1}, {2, 0, 1}, {-1, 0, 1}, {0, 6, 1},
            {0, Integer.MAX_VALUE, 1}, {Integer.MIN_VALUE, 0, 1}, {0, 1, Integer.MAX_VALUE}};
        for (int[] row : none) {
            Check.due("11: none such", x.handler(row[0], row[1], row[2]), 0);
        }
        Check.due("11: written", x.write(), x.look(2));
        for (int k = 0; k < x.look(2); k++) {
            Check.due("11: written byte " + k, x.byteAt(k, false), x.byteAt(k, true));
        }
    }

    private static void byteAt() {
        StackBytes x = new StackBytes();
        x.give(0x80ff00L, 3);
        x.write();
        int[][] due = {{0, 0x80, 71}, {1, 255, 70}, {2, 0, 1}, {3, NONE, 1}, {12, NONE, 0}, {13, NONE, NONE},
            {-1, NONE, NONE}, {Integer.MAX_VALUE, NONE, NONE}, {Integer.MIN_VALUE, NONE, NONE}, {64, NONE, NONE}};
        for (int[] row : due) {
            Check.due("12: byteAt(" + row[0] + ", true)", x.byteAt(row[0], true), row[1]);
            Check.due("12: byteAt(" + row[0] + ", false)", x.byteAt(row[0], false), row[2]);
        }
    }

    private static void look() {
        StackBytes x = new StackBytes();
        byte[] many = manyNumbers();
        ProgramBytes.load(x, many);
        x.read();
        Check.due("13: FUNCTIONS", x.look(0), 2);
        Check.due("13: INSTRUCTIONS", x.look(1), 10);
        Check.due("13: BYTES", x.look(2), many.length);
        Check.due("13: WRITTEN", x.look(3), 0);
        x.write();
        Check.due("13: WRITTEN now", x.look(3), many.length);
        x.cut(5);
        Check.due("13: no fault by cut", x.look(4), 0);
        x.read();
        Check.due("13: fault", x.look(4), 1);
        Check.due("13: place", x.look(5), 5);
        x.turnOver();
        x.cut(-1);
        x.give(0, 9);
        Check.due("13: fault stays", x.look(4), 1);
        Check.due("13: place stays", x.look(5), 5);
        x.change(0, 0, 30, 0);
        Check.due("13: fault of change", x.look(4), 3);
        Check.due("13: no place", x.look(5), NONE);
        x.read();
        Check.due("13: no fault", x.look(4), 0);
        for (int which : new int[] {6, -1, 7, Integer.MAX_VALUE, Integer.MIN_VALUE}) {
            Check.due("13: none such", x.look(which), NONE);
        }
    }
}
