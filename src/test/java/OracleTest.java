import java.util.ArrayList;
import java.util.Arrays;
import java.util.List;
import java.util.Random;

/** Many runs of calls, chosen by fixed seeds, on a StackBytes and on the oracle: each answer must be the same. */
public final class OracleTest {
    private static final int RUNS = 3000;
    private static final int CALLS = 512;
    private static final int[] ODD = {-1, -2, 4096, 65535, 65536, Integer.MAX_VALUE, Integer.MIN_VALUE};

    private final Random random;
    private final int seed;
    private final StackBytes x = new StackBytes();
    private final Oracle due = new Oracle();
    private int calls = 0;
    private boolean deep = false;

    private OracleTest(int seed) {
        this.seed = seed;
        random = new Random(seed);
    }

    private static final int[] FAULTS = new int[9];
    private static final int[] CHANGES = new int[9];

    public static void main(String[] args) {
        for (int seed = 0; seed < RUNS; seed++) {
            new OracleTest(seed).run();
        }
        System.out.println("reads by fault " + Arrays.toString(FAULTS) + ", changes " + Arrays.toString(CHANGES));
        for (int kind = 0; kind < 9; kind++) {
            Check.due("reads that end with " + kind + " are among them", FAULTS[kind] > 20, true);
            boolean changeHasIt = kind == 0 || kind == 3 || kind > 4;
            Check.due("changes that end with " + kind, CHANGES[kind] > 20, changeHasIt);
        }
        Check.end();
    }

    private void same(String what, long got, long want) {
        calls++;
        Check.due("seed " + seed + ", call " + calls + ", " + what, got, want);
    }

    private void same(String what, boolean got, boolean want) {
        same(what, got ? 1 : 0, want ? 1 : 0);
    }

    private void run() {
        if (random.nextInt(8) != 0) {
            giveProgram(random.nextInt(20) == 0 ? 120 : 12);
            read();
        }
        while (calls < CALLS) {
            step();
        }
    }

    private void step() {
        int kind = random.nextInt(100);
        if (kind < 40) {
            change();
        } else if (kind < 50) {
            pokeAndRead();
        } else if (kind < 80) {
            ask();
        } else if (kind < 85) {
            same("write", x.write(), due.write());
        } else if (kind < 88) {
            same("turnOver", x.turnOver(), due.turnOver());
            read();
        } else if (kind < 90) {
            int n = index(due.look(2) + 2);
            same("cut " + n, x.cut(n), due.cut(n));
            read();
        } else if (kind < 93) {
            giveProgram(6);
            read();
        } else if (kind < 95) {
            give(random.nextLong(), index(10));
            read();
        } else {
            for (int which = -1; which < 7; which++) {
                same("look " + which, x.look(which), due.look(which));
            }
        }
    }

    private int index(int bound) {
        return random.nextInt(30) == 0 ? ODD[random.nextInt(ODD.length)] : random.nextInt(bound);
    }

    private void give(long v, int n) {
        same("give " + v + " " + n, x.give(v, n), due.give(v, n));
    }

    private void read() {
        int got = x.read();
        int want = due.read();
        FAULTS[want]++;
        same("read", got, want);
        same("place of read", x.look(5), due.look(5));
    }

    private void pokeAndRead() {
        int k = index(due.look(2) + 1);
        int old = due.byteAt(k, true);
        int b = random.nextBoolean() ? random.nextInt(32) : random.nextInt();
        same("poke " + k + " " + b, x.poke(k, b), due.poke(k, b));
        read();
        if (random.nextInt(5) != 0) {
            same("poke back " + k, x.poke(k, old), due.poke(k, old));
        }
    }

    private void change() {
        int f = index(due.look(0) + 1 - random.nextInt(2));
        int count = due.function(f, 4);
        int i = index(Math.max(1, count) + random.nextInt(2));
        int op = index(31);
        boolean plain = op > 5 && op < 18 || op > 0 && op < 4 || op > 20 && op < 25 || op == 27 || op == 28;
        boolean jumps = op == 18 || op == 19 || op == 20;
        int behind = plain && random.nextInt(10) != 0 ? 0 : index(jumps ? Math.max(2, count) : 6);
        String call = "change " + f + " " + i + " " + op + " " + behind;
        int got = x.change(f, i, op, behind);
        int want = due.change(f, i, op, behind);
        CHANGES[want]++;
        same(call, got, want);
        same("place of " + call, x.look(5), due.look(5));
    }

    private void ask() {
        int f = index(due.look(0) + 1);
        int i = index(Math.max(1, due.function(f, 4)) + 2);
        int k = index(8);
        for (int what = -1; what < 9; what++) {
            same("code " + f + " " + i + " " + what, x.code(f, i, what), due.code(f, i, what));
            same("function " + f + " " + what, x.function(f, what), due.function(f, what));
            same("handler " + f + " " + k + " " + what, x.handler(f, k, what), due.handler(f, k, what));
        }
        int at = index(Math.max(due.look(2), due.look(3)) + 1);
        same("byteAt " + at, x.byteAt(at, true), due.byteAt(at, true));
        same("byteAt " + at, x.byteAt(at, false), due.byteAt(at, false));
    }

    private void giveProgram(int longest) {
        byte[] bytes = program(longest);
        same("cut 0", x.cut(0), due.cut(0));
        for (int k = 0; k < bytes.length; ) {
            int n = Math.min(8, bytes.length - k);
            long v = 0;
            for (int j = 0; j < n; j++) {
                v = v << 8 | (bytes[k + j] & 255);
            }
            give(v, n);
            k += n;
        }
    }

    private byte[] program(int longest) {
        deep = random.nextInt(5) == 0;
        int functions = 1 + random.nextInt(random.nextInt(6) == 0 ? 12 : 3);
        int[][] heads = new int[functions][];
        for (int f = 0; f < functions; f++) {
            int params = f == 0 ? 0 : random.nextInt(5);
            int locals = params + random.nextInt(13 - params);
            int rows = random.nextInt(1 << locals);
            heads[f] = new int[] {params, locals, rows, random.nextInt(f == 0 ? 2 : 3)};
        }
        ProgramBytes made = new ProgramBytes(functions);
        for (int[] head : heads) {
            body(made, head, heads, longest);
        }
        return made.bytes();
    }

    /** Straight on, with only what the stack allows, and at last a RETURN (or now and then what is wrong there). */
    private void body(ProgramBytes made, int[] head, int[][] heads, int longest) {
        List<int[]> codes = new ArrayList<>();
        List<String> stacks = new ArrayList<>();
        String stack = "";
        int n = random.nextInt(deep ? 40 : longest);
        for (int turn = 0; turn < n; turn++) {
            stacks.add(stack);
            stack = choose(codes, stacks, head, heads, stack);
        }
        // LOAD and STORE are of no use without locals of the type: NEW makes a row, PUSH an int.
        if (head[3] != 0 && stack.length() < 16) {
            codes.add(new int[] {ProgramBytes.PUSH, random.nextInt()});
            if (head[3] == 2) {
                codes.add(new int[] {ProgramBytes.NEW, 0});
            }
        }
        codes.add(random.nextInt(30) == 0 ? new int[] {random.nextInt(4), 0} : new int[] {ProgramBytes.RETURN, 0});
        int handler = -1;
        if (random.nextInt(3) == 0) {
            handler = codes.size();
            codes.add(new int[] {ProgramBytes.THROW, 0});
        }
        made.head(head[0], head[1], head[2], head[3], codes.size());
        for (int[] code : codes) {
            if (hasBehind(code[0])) {
                made.op(code[0], code[1]);
            } else {
                made.op(code[0]);
            }
        }
        handlers(made, codes.size(), handler);
    }

    private void handlers(ProgramBytes made, int count, int target) {
        int handlers = target < 0 ? 0 : random.nextInt(7);
        made.handlers(handlers);
        for (int k = 0; k < handlers; k++) {
            int from = random.nextInt(count);
            int to = from + 1 + random.nextInt(count - from);
            int where = random.nextInt(20) == 0 ? random.nextInt(count) : target;
            if (random.nextBoolean()) {
                made.handlerForAny(from, to, where);
            } else {
                made.handlerFor(from, to, where, random.nextInt());
            }
        }
    }

    private static boolean hasBehind(int op) {
        return op == 0 || op == 4 || op == 5 || op >= 18 && op <= 20 || op == 25 || op == 26 || op == 29;
    }

    /** Adds one instruction, and answers the stack behind it. */
    private String choose(List<int[]> codes, List<String> stacks, int[] head, int[][] heads, String stack) {
        for (int turn = 0; turn < 30; turn++) {
            int op = deep && random.nextInt(4) != 0 ? 2 * random.nextInt(3) : random.nextInt(30);
            int behind = op == 0 ? random.nextInt() : op == 4 || op == 5 ? random.nextInt(Math.max(1, head[1]))
                : op == 25 ? random.nextInt(heads.length) : random.nextInt(16);
            if (op == 19 || op == 20) {
                String popped = stack.endsWith("I") ? stack.substring(0, stack.length() - 1) : "none";
                behind = stacks.indexOf(popped);
            }
            boolean none = behind < 0 || head[1] == 0 && (op == 4 || op == 5);
            String next = none ? null : next(op, behind, head, heads, stack);
            if (next != null && (next.length() <= 16 || random.nextInt(200) == 0)) {
                codes.add(new int[] {op, behind});
                return next;
            }
        }
        codes.add(new int[] {ProgramBytes.GUARD, 0});
        return stack;
    }

    private String next(int op, int behind, int[] head, int[][] heads, String stack) {
        switch (op) {
            case 0:
                return stack + "I";
            case 1:
                return stack.isEmpty() ? null : stack.substring(0, stack.length() - 1);
            case 2:
                return stack.isEmpty() ? null : stack + stack.charAt(stack.length() - 1);
            case 3:
                int n = stack.length();
                return n < 2 ? null : stack.substring(0, n - 2) + stack.charAt(n - 1) + stack.charAt(n - 2);
            case 4:
                return stack + type(head, behind);
            case 5:
                return without(stack, type(head, behind), "");
            case 19:
            case 20:
                return without(stack, "I", "");
            case 21:
                return without(stack, "I", "R");
            case 22:
                return without(stack, "RI", "I");
            case 23:
                return without(stack, "RII", "");
            case 24:
                return without(stack, "R", "I");
            case 25:
                StringBuilder params = new StringBuilder();
                for (int l = 0; l < heads[behind][0]; l++) {
                    params.append(type(heads[behind], l));
                }
                return without(stack, params.toString(), new String[] {"", "I", "R"}[heads[behind][3]]);
            case 26:
                return without(stack, "III".substring(3 - behind % 4), "I");
            case 29:
                String ints = "III".substring(3 - behind % 4);
                return without(stack, ints, ints);
            default:
                return op >= 6 && op <= 17 ? without(stack, "II", "I") : null;
        }
    }

    private static String type(int[] head, int local) {
        return (head[2] >> local & 1) == 1 ? "R" : "I";
    }

    private static String without(String stack, String taken, String put) {
        return stack.endsWith(taken) ? stack.substring(0, stack.length() - taken.length()) + put : null;
    }
}
