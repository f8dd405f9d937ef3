import java.util.ArrayList;
import java.util.Arrays;
import java.util.List;
import java.util.function.Consumer;

/** What the tests of single sentences share. Each name of a check begins with the sentence, or what matters of it. */
final class Edge {
    static final int NONE = StackBytes.NONE;
    static final int MIN = Integer.MIN_VALUE;
    static final int MAX = Integer.MAX_VALUE;
    static final byte[] RETURNS = ProgramBytes.oneFunction(0, 0, 0, 1, ProgramBytes.RETURN);

    // Few enough that they stay within the 512 calls of an object, with what has been called before.
    private static final int QUESTIONS = 64;

    private Edge() {
    }

    /** A new object that has these BYTES, and has read them; fault and place are the ones due. */
    static StackBytes read(String sentence, byte[] bytes, int fault, int place) {
        StackBytes x = new StackBytes();
        readAgain(x, sentence, bytes, fault, place);
        return x;
    }

    static void readAgain(StackBytes x, String sentence, byte[] bytes, int fault, int place) {
        ProgramBytes.load(x, bytes);
        Check.due(sentence + ": read", x.read(), fault);
        Check.due(sentence + ": fault", x.look(4), fault);
        Check.due(sentence + ": place", x.look(5), place);
    }

    static StackBytes right(String sentence, byte[] bytes) {
        return read(sentence, bytes, 0, NONE);
    }

    static void change(String sentence, StackBytes x, int[] call, int fault, int place) {
        String text = sentence + ": change" + Arrays.toString(call);
        Check.due(text, x.change(call[0], call[1], call[2], call[3]), fault);
        Check.due(text + ": fault", x.look(4), fault);
        Check.due(text + ": place", x.look(5), place);
    }

    /** These bytes with others from place k on. */
    static byte[] with(byte[] bytes, int k, int... others) {
        byte[] made = bytes.clone();
        for (int j = 0; j < others.length; j++) {
            made[k + j] = (byte) others[j];
        }
        return made;
    }

    static byte[] longer(byte[] bytes, int... others) {
        return with(Arrays.copyOf(bytes, bytes.length + others.length), bytes.length, others);
    }

    /** One FUNCTION with an INT (LOCAL 0) and a ROW (LOCAL 1): puts these types ('I', 'R'), then has these bytes. */
    static byte[] behindStack(String types, int instructions, int... others) {
        ProgramBytes made = new ProgramBytes(1).head(0, 2, 2, 0, types.length() + instructions);
        for (int k = 0; k < types.length(); k++) {
            made.op(ProgramBytes.LOAD, types.charAt(k) == 'R' ? 1 : 0);
        }
        for (int b : others) {
            made.one(b);
        }
        return made.handlers(0).bytes();
    }

    static int rows(String types) {
        int bits = 0;
        for (int k = 0; k < types.length(); k++) {
            bits |= types.charAt(k) == 'R' ? 1 << k : 0;
        }
        return bits;
    }

    /** All that can be asked behind these calls, but the fault and its place. */
    static List<Integer> state(Consumer<StackBytes> calls) {
        return new Asker(calls).all();
    }

    /** Asks behind the same calls on one new object after another, none of which is called too often. */
    private static final class Asker {
        private final Consumer<StackBytes> calls;
        private final List<Integer> answers = new ArrayList<>();
        private StackBytes x;

        Asker(Consumer<StackBytes> calls) {
            this.calls = calls;
        }

        private StackBytes next() {
            if (answers.size() % QUESTIONS == 0) {
                x = new StackBytes();
                calls.accept(x);
            }
            return x;
        }

        private int keep(int answer) {
            answers.add(answer);
            return answer;
        }

        List<Integer> all() {
            int functions = keep(next().look(0));
            keep(next().look(1));
            int bytes = keep(next().look(2));
            int written = keep(next().look(3));
            for (int k = 0; k < bytes; k++) {
                keep(next().byteAt(k, true));
            }
            for (int k = 0; k < written; k++) {
                keep(next().byteAt(k, false));
            }
            for (int f = 0; f < functions; f++) {
                function(f);
            }
            return answers;
        }

        private void function(int f) {
            for (int what = 0; what < 8; what++) {
                keep(next().function(f, what));
            }
            int count = keep(next().function(f, 4));
            for (int i = 0; i < count; i++) {
                for (int what = 0; what < 5; what++) {
                    keep(next().code(f, i, what));
                }
            }
            int handlers = keep(next().function(f, 5));
            for (int k = 0; k < handlers; k++) {
                for (int what = 0; what < 5; what++) {
                    keep(next().handler(f, k, what));
                }
            }
        }
    }
}
