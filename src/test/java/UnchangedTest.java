import java.util.ArrayList;
import java.util.Arrays;
import java.util.LinkedHashMap;
import java.util.List;
import java.util.Map;
import java.util.function.Consumer;

/** The sentence "What answers false, NONE or a fault changes nothing but what is said", for each call that can. */
public final class UnchangedTest {
    /** Calls that answer false or NONE, or 0 where there is none such; nothing is said by them. */
    private static final Map<String, Consumer<StackBytes>> SILENT = new LinkedHashMap<>();

    /** Calls that answer a fault: this and its place are said, in look, and nothing else. */
    private static final Map<String, Consumer<StackBytes>> FAULTY = new LinkedHashMap<>();

    public static void main(String[] args) {
        fillSilent();
        fillFaulty();
        Edge.right("many", many());
        anotherObject();
        for (Consumer<StackBytes> start : starts()) {
            List<Integer> before = Edge.state(start);
            for (Map.Entry<String, Consumer<StackBytes>> call : SILENT.entrySet()) {
                unchanged(call.getKey(), before, start, call.getValue());
                sameFault(call.getKey(), start, call.getValue());
            }
            for (Map.Entry<String, Consumer<StackBytes>> call : FAULTY.entrySet()) {
                unchanged(call.getKey(), before, start, call.getValue());
            }
            badReads(start);
        }
        Check.end();
    }

    private static void unchanged(String name, List<Integer> before, Consumer<StackBytes> start,
        Consumer<StackBytes> call) {
        List<Integer> after = Edge.state(start.andThen(call));
        Check.due(name + " changes nothing", after.equals(before), true);
        List<Integer> twice = Edge.state(start.andThen(call).andThen(call));
        Check.due(name + " twice changes nothing", twice.equals(before), true);
    }

    private static void sameFault(String name, Consumer<StackBytes> start, Consumer<StackBytes> call) {
        StackBytes x = new StackBytes();
        start.accept(x);
        int fault = x.look(4);
        int place = x.look(5);
        call.accept(x);
        Check.due(name + " says no fault", x.look(4), fault);
        Check.due(name + " says no place", x.look(5), place);
    }

    /** What is called on one object changes nothing of another one. */
    private static void anotherObject() {
        StackBytes other = new StackBytes();
        for (Consumer<StackBytes> start : starts()) {
            List<Integer> alone = Edge.state(start);
            List<Integer> between = Edge.state(x -> {
                start.accept(x);
                starts().forEach(more -> more.accept(new StackBytes()));
            });
            Check.due("calls on others change nothing", between.equals(alone), true);
            start.accept(new StackBytes());
        }
        Check.due("it is as a new one: FUNCTIONS", other.look(0), 1);
        Check.due("it is as a new one: BYTES", other.look(2), 0);
        Check.due("it is as a new one: WRITTEN", other.look(3), 0);
        Check.due("it is as a new one: fault", other.look(4), 0);
    }

    private static byte[] many() {
        return new ProgramBytes(3).head(0, 2, 2, 0, 5)
            .op(ProgramBytes.PUSH, 0x11223344).op(ProgramBytes.NEW).op(ProgramBytes.CALL, 1)
            .op(ProgramBytes.IF, 0).op(ProgramBytes.RETURN)
            .handlers(2).handlerFor(1, 2, 3, 99).handlerForAny(2, 3, 3)
            .head(1, 3, 3, 1, 3).op(ProgramBytes.LOAD, 0).op(ProgramBytes.SIZE).op(ProgramBytes.RETURN)
            .handlers(0)
            .head(4, 12, 0xabc, 2, 4).op(ProgramBytes.LOAD, 2).op(ProgramBytes.RETURN).op(ProgramBytes.ADD)
            .op(ProgramBytes.RETURN).handlers(1).handlerFor(2, 4, 3, Integer.MIN_VALUE).bytes();
    }

    private static List<Consumer<StackBytes>> starts() {
        List<Consumer<StackBytes>> all = new ArrayList<>();
        all.add(x -> { });
        all.add(x -> x.give(0x0102030405060708L, 8));
        all.add(x -> {
            x.write();
            x.turnOver();
            x.poke(11, 1);
            x.read();
        });
        all.add(x -> {
            ProgramBytes.load(x, many());
            x.read();
            x.write();
            x.cut(20);
            x.read();
        });
        all.add(x -> {
            ProgramBytes.load(x, many());
            x.read();
            x.write();
            x.change(0, 0, ProgramBytes.PUSH, -1);
        });
        return all;
    }

    private static void fillSilent() {
        for (int n : new int[] {0, -1, 9, Edge.MIN, Edge.MAX}) {
            SILENT.put("give(7, " + n + ")", x -> Check.due("give", x.give(7, n), false));
        }
        for (int n : new int[] {-1, 4097, Edge.MIN, Edge.MAX}) {
            SILENT.put("cut(" + n + ")", x -> Check.due("cut", x.cut(n), false));
        }
        for (int k : new int[] {-1, 4096, Edge.MIN, Edge.MAX}) {
            SILENT.put("poke(" + k + ", 5)", x -> Check.due("poke", x.poke(k, 5), false));
            SILENT.put("byteAt(" + k + ", true)", x -> Check.due("byteAt", x.byteAt(k, true), Edge.NONE));
            SILENT.put("byteAt(" + k + ", false)", x -> Check.due("byteAt", x.byteAt(k, false), Edge.NONE));
        }
        for (int f : new int[] {-1, 12, Edge.MAX}) {
            SILENT.put("code(" + f + ", 0, 0)", x -> Check.due("code", x.code(f, 0, 0), 0));
            SILENT.put("function(" + f + ", 0)", x -> Check.due("function", x.function(f, 0), Edge.NONE));
            SILENT.put("handler(" + f + ", 0, 1)", x -> Check.due("handler", x.handler(f, 0, 1), 0));
            SILENT.put("look(" + f + ")", x -> Check.due("look", x.look(f), Edge.NONE));
        }
        SILENT.put("cut, one too many", x -> Check.due("cut", x.cut(x.look(2) + 1), false));
        SILENT.put("poke behind the last", x -> Check.due("poke", x.poke(x.look(2), 1), false));
    }

    private static void change(int f, int i, int op, int behind) {
        FAULTY.put("change(" + f + ", " + i + ", " + op + ", " + behind + ")",
            x -> Check.due("a fault", x.change(f, i, op, behind) != 0, true));
    }

    private static void fillFaulty() {
        change(-1, 0, 27, 0);
        change(3, 0, 27, 0);
        change(0, -1, 27, 0);
        change(0, 400, 27, 0);
        change(0, 0, 30, 0);
        change(0, 0, -1, 0);
        change(0, 0, 27, 1);
        change(0, 0, 18, 400);
        change(0, 0, 25, 12);
        change(0, 0, 4, 12);
        change(0, 0, 26, 16);
        change(0, 0, 1, 0);
        change(0, 0, 24, 0);
        change(0, 0, 28, 0);
    }

    /** The BYTES are made wrong, and read; all but the BYTES is as it was ahead of that. */
    private static void badReads(Consumer<StackBytes> start) {
        byte[] good = many();
        byte[][] bad = {new byte[0], Edge.with(good, 0, 0), Edge.with(good, 3, 2), Edge.with(good, 3, 4),
            Edge.longer(good, 0), Arrays.copyOf(good, good.length - 1), Edge.with(good, 8, 1),
            ProgramBytes.oneFunction(12, 0xfff, 0, 1, 28), Edge.with(good, good.length - 6, 9),
            Edge.behindStack("IIIIIIIIIIIIIIII", 2, 2, 27), Edge.behindStack("R", 1, 18, 0, 0),
            Edge.behindStack("R", 1, 1)};
        for (byte[] bytes : bad) {
            Consumer<StackBytes> load = start.andThen(x -> ProgramBytes.load(x, bytes));
            List<Integer> before = Edge.state(load);
            StackBytes x = new StackBytes();
            load.accept(x);
            Check.due("a fault of read", x.read() != 0, true);
            List<Integer> after = Edge.state(load.andThen(StackBytes::read));
            Check.due("a read with a fault changes nothing", after.equals(before), true);
            // What the fault has left behind inside must not be seen by what is called next.
            List<Integer> next = Edge.state(load.andThen(StackBytes::read).andThen(UnchangedTest::goOn));
            List<Integer> due = Edge.state(load.andThen(UnchangedTest::goOn));
            Check.due("nor what is done behind it", next.equals(due), true);
        }
    }

    private static void goOn(StackBytes x) {
        x.change(0, 0, ProgramBytes.JUMP, 0);
        x.write();
        x.turnOver();
        x.read();
    }
}
