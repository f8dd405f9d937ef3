import java.util.ArrayList;
import java.util.List;
import java.util.TreeSet;

/** The document once more, plain and slow: stacks are texts of 'I' and 'R', the bottom first; faults are thrown. */
final class Oracle {
    static final int NONE = -1;

    /** What stands behind ('4' bytes, 'l'ocal, 't', 'f', 'c' or '-'), what is taken, what is put; '?' is any type. */
    private static final String[] TABLE = {
        "4  I", "- ? ", "- ? ??", "- ?! !?", "l  L", "l L ",
        "- II I", "- II I", "- II I", "- II I", "- II I", "- II I", "- II I", "- II I", "- II I", "- II I", "- II I",
        "- II I",
        "t  ", "t I ", "t I ", "- I R", "- RI I", "- RII ", "- R I", "f P Q", "c C I", "- Q ", "- I ", "c C C",
    };

    static final class Fault extends Exception {
        private static final long serialVersionUID = 1;
        final int kind;
        final int place;

        Fault(int kind, int place) {
            this.kind = kind;
            this.place = place;
        }
    }

    static final class Fun {
        int params;
        int locals;
        int rows;
        int result;
        final List<int[]> codes = new ArrayList<>();
        final List<int[]> handlers = new ArrayList<>();
        String[] stacks;

        String type(int local) {
            return (rows >> local & 1) == 1 ? "R" : "I";
        }

        String paramTypes() {
            StringBuilder text = new StringBuilder();
            for (int l = 0; l < params; l++) {
                text.append(type(l));
            }
            return text.toString();
        }

        String resultType() {
            return result == 0 ? "" : result == 1 ? "I" : "R";
        }
    }

    private List<Integer> bytes = new ArrayList<>();
    private List<Integer> written = new ArrayList<>();
    private List<Fun> program = new ArrayList<>();
    private int fault = 0;
    private int place = NONE;
    private int at;

    Oracle() {
        Fun only = new Fun();
        only.codes.add(new int[] {27, 0});
        only.stacks = new String[] {""};
        program.add(only);
    }

    boolean give(long v, int n) {
        if (n < 1 || n > 8 || bytes.size() + n > 4096) {
            return false;
        }
        for (int k = n - 1; k >= 0; k--) {
            bytes.add((int) (v >>> 8 * k & 255));
        }
        return true;
    }

    boolean cut(int n) {
        if (n < 0 || n > bytes.size()) {
            return false;
        }
        bytes = new ArrayList<>(bytes.subList(0, n));
        return true;
    }

    boolean poke(int k, int b) {
        if (k < 0 || k >= bytes.size()) {
            return false;
        }
        bytes.set(k, Math.floorMod(b, 256));
        return true;
    }

    int read() {
        try {
            List<Fun> made = parse();
            for (int f = 0; f < made.size(); f++) {
                made.get(f).stacks = verified(made, f);
            }
            program = made;
            return noFault();
        } catch (Fault found) {
            return keep(found);
        }
    }

    private int noFault() {
        fault = 0;
        place = NONE;
        return 0;
    }

    private int keep(Fault found) {
        fault = found.kind;
        place = found.place;
        return fault;
    }

    private int one() throws Fault {
        if (at == bytes.size()) {
            throw new Fault(1, at);
        }
        return bytes.get(at++);
    }

    private int ranged(int n, int from, int to) throws Fault {
        int start = at;
        int value = 0;
        for (int k = 0; k < n; k++) {
            value = value * 256 + one();
        }
        if (value < from || value > to) {
            throw new Fault(3, start);
        }
        return value;
    }

    private int four() throws Fault {
        int high = one() << 24 | one() << 16;
        return high | one() << 8 | one();
    }

    private List<Fun> parse() throws Fault {
        at = 0;
        for (int due : new int[] {71, 70, 1}) {
            if (one() != due) {
                throw new Fault(2, at - 1);
            }
        }
        int functions = ranged(1, 1, 12);
        List<Fun> made = new ArrayList<>();
        for (int f = 0; f < functions; f++) {
            made.add(parseFunction(f, functions));
        }
        if (at < bytes.size()) {
            throw new Fault(4, at);
        }
        return made;
    }

    private Fun parseFunction(int f, int functions) throws Fault {
        Fun fun = new Fun();
        fun.params = ranged(1, 0, f == 0 ? 0 : 4);
        fun.locals = ranged(1, fun.params, 12);
        fun.rows = ranged(2, 0, (int) Math.pow(2, fun.locals) - 1);
        fun.result = ranged(1, 0, f == 0 ? 1 : 2);
        int n = ranged(2, 1, 400);
        for (int i = 0; i < n; i++) {
            int op = ranged(1, 0, 29);
            char kind = TABLE[op].charAt(0);
            int behind = kind == '-' ? 0 : kind == '4' ? four() : kind == 't' ? ranged(2, 0, n - 1)
                : ranged(1, 0, kind == 'l' ? fun.locals - 1 : kind == 'f' ? functions - 1 : 15);
            fun.codes.add(new int[] {op, behind});
        }
        int handlers = ranged(1, 0, 6);
        for (int k = 0; k < handlers; k++) {
            int from = ranged(2, 0, n - 1);
            int to = ranged(2, from + 1, n);
            int target = ranged(2, 0, n - 1);
            int withCode = ranged(1, 0, 1);
            fun.handlers.add(new int[] {from, to, target, 1 - withCode, withCode == 1 ? four() : 0});
        }
        return fun;
    }

    private static String[] verified(List<Fun> all, int f) throws Fault {
        Fun fun = all.get(f);
        int n = fun.codes.size();
        String[] stacks = new String[n];
        TreeSet<Integer> waiting = new TreeSet<>();
        stacks[0] = "";
        waiting.add(0);
        while (!waiting.isEmpty()) {
            int i = waiting.pollFirst();
            int op = fun.codes.get(i)[0];
            int behind = fun.codes.get(i)[1];
            String stack = after(all, fun, op, behind, stacks[i], 512 * f + i);
            List<Integer> places = new ArrayList<>();
            List<String> with = new ArrayList<>();
            for (int[] handler : fun.handlers) {
                if (handler[0] <= i && i < handler[1]) {
                    places.add(handler[2]);
                    with.add("I");
                }
            }
            if (op >= 18 && op <= 20) {
                places.add(behind);
                with.add(stack);
            }
            if (op != 18 && op != 27 && op != 28) {
                places.add(i + 1);
                with.add(stack);
            }
            for (int k = 0; k < places.size(); k++) {
                int to = places.get(k);
                if (to == n) {
                    throw new Fault(8, 512 * f + i);
                }
                if (stacks[to] == null) {
                    stacks[to] = with.get(k);
                    waiting.add(to);
                } else if (!stacks[to].equals(with.get(k))) {
                    throw new Fault(7, 512 * f + to);
                }
            }
        }
        return stacks;
    }

    private static String after(List<Fun> all, Fun fun, int op, int behind, String stack, int place) throws Fault {
        String[] parts = TABLE[op].split(" ", -1);
        String takes = filled(all, fun, op, behind, parts[1]);
        String puts = filled(all, fun, op, behind, parts[2]);
        if (stack.length() < takes.length()) {
            throw new Fault(5, place);
        }
        String upper = stack.substring(stack.length() - takes.length());
        for (int k = 0; k < takes.length(); k++) {
            boolean isAny = takes.charAt(k) == '?' || takes.charAt(k) == '!';
            if (isAny) {
                puts = puts.replace(takes.charAt(k), upper.charAt(k));
            } else if (takes.charAt(k) != upper.charAt(k)) {
                throw new Fault(5, place);
            }
        }
        String made = stack.substring(0, stack.length() - takes.length()) + puts;
        if (made.length() > 16) {
            throw new Fault(6, place);
        }
        return made;
    }

    private static String filled(List<Fun> all, Fun fun, int op, int behind, String pattern) {
        switch (pattern) {
            case "L":
                return fun.type(behind);
            case "C":
                return "III".substring(0, behind % 4);
            case "P":
                return all.get(behind).paramTypes();
            case "Q":
                return op == 25 ? all.get(behind).resultType() : fun.resultType();
            default:
                return pattern;
        }
    }

    int write() {
        written = new ArrayList<>();
        put(71, 1);
        put(70, 1);
        put(1, 1);
        put(program.size(), 1);
        for (Fun fun : program) {
            put(fun.params, 1);
            put(fun.locals, 1);
            put(fun.rows, 2);
            put(fun.result, 1);
            put(fun.codes.size(), 2);
            for (int[] code : fun.codes) {
                char kind = TABLE[code[0]].charAt(0);
                put(code[0], 1);
                put(code[1], kind == '4' ? 4 : kind == 't' ? 2 : kind == '-' ? 0 : 1);
            }
            put(fun.handlers.size(), 1);
            for (int[] handler : fun.handlers) {
                put(handler[0], 2);
                put(handler[1], 2);
                put(handler[2], 2);
                put(1 - handler[3], 1);
                put(handler[4], handler[3] == 1 ? 0 : 4);
            }
        }
        return written.size();
    }

    private void put(int value, int n) {
        for (int k = n - 1; k >= 0; k--) {
            written.add(value >>> 8 * k & 255);
        }
    }

    boolean turnOver() {
        if (written.size() > 4096) {
            return false;
        }
        bytes = new ArrayList<>(written);
        return true;
    }

    private Fun at(int f) {
        return f >= 0 && f < program.size() ? program.get(f) : null;
    }

    int change(int function, int i, int op, int behind) {
        Fun fun = at(function);
        if (fun == null || i < 0 || i >= fun.codes.size() || op < 0 || op > 29 || !fits(fun, op, behind)) {
            return keep(new Fault(3, NONE));
        }
        int[] old = fun.codes.set(i, new int[] {op, behind});
        try {
            String[][] found = new String[program.size()][];
            for (int f = 0; f < program.size(); f++) {
                found[f] = verified(program, f);
            }
            fun.stacks = found[function];
            return noFault();
        } catch (Fault fault) {
            fun.codes.set(i, old);
            return keep(fault);
        }
    }

    private boolean fits(Fun fun, int op, int behind) {
        switch (TABLE[op].charAt(0)) {
            case '4':
                return true;
            case 'l':
                return behind >= 0 && behind < fun.locals;
            case 't':
                return behind >= 0 && behind < fun.codes.size();
            case 'f':
                return behind >= 0 && behind < program.size();
            case 'c':
                return behind >= 0 && behind < 16;
            default:
                return behind == 0;
        }
    }

    int code(int function, int i, int what) {
        Fun fun = at(function);
        if (fun == null || i < 0 || i >= fun.codes.size() || what < 0 || what > 4) {
            return 0;
        }
        String stack = fun.stacks[i];
        if (what < 2) {
            return fun.codes.get(i)[what];
        }
        if (what == 2) {
            return stack == null ? NONE : stack.length();
        }
        if (what == 3) {
            int rows = 0;
            for (int k = 0; stack != null && k < stack.length(); k++) {
                rows += stack.charAt(k) == 'R' ? 1 << k : 0;
            }
            return rows;
        }
        boolean jump = fun.codes.stream().anyMatch(c -> c[0] >= 18 && c[0] <= 20 && c[1] == i);
        return jump || fun.handlers.stream().anyMatch(h -> h[2] == i) ? 1 : 0;
    }

    int function(int function, int what) {
        Fun fun = at(function);
        if (fun == null || what < 0 || what > 7) {
            return NONE;
        }
        int come = 0;
        int most = 0;
        for (String stack : fun.stacks) {
            come += stack == null ? 0 : 1;
            most = Math.max(most, stack == null ? 0 : stack.length());
        }
        return new int[] {fun.params, fun.locals, fun.rows, fun.result, fun.codes.size(), fun.handlers.size(), come,
            most}[what];
    }

    int handler(int function, int k, int what) {
        Fun fun = at(function);
        if (fun == null || k < 0 || k >= fun.handlers.size() || what < 0 || what > 4) {
            return 0;
        }
        return fun.handlers.get(k)[what];
    }

    int byteAt(int k, boolean into) {
        List<Integer> asked = into ? bytes : written;
        return k < 0 || k >= asked.size() ? NONE : asked.get(k);
    }

    int look(int which) {
        switch (which) {
            case 0:
                return program.size();
            case 1:
                return program.stream().mapToInt(fun -> fun.codes.size()).sum();
            case 2:
                return bytes.size();
            case 3:
                return written.size();
            case 4:
                return fault;
            case 5:
                return place;
            default:
                return NONE;
        }
    }
}
