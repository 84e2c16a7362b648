/**
 * An OffsetHeap that is asked no more than the document promises: a test that makes a 513th call on
 * one object is itself at fault, as what that call answers is free.
 */
final class CountedHeap {
    static final int MOST_CALLS = 512;

    private final OffsetHeap heap;
    private int calls = 0;

    CountedHeap(int words, int block) {
        heap = new OffsetHeap(words, block);
    }

    int callsLeft() {
        return MOST_CALLS - calls;
    }

    private OffsetHeap called() {
        calls++;
        if (calls > MOST_CALLS) {
            throw new IllegalStateException("the test makes more than 512 calls on one object");
        }
        return heap;
    }

    int make(int references, int words) {
        return called().make(references, words);
    }

    boolean refer(int object, int k, int to) {
        return called().refer(object, k, to);
    }

    boolean set(int object, int k, int v) {
        return called().set(object, k, v);
    }

    boolean root(int k, int object) {
        return called().root(k, object);
    }

    int collect() {
        return called().collect();
    }

    int word(int i) {
        return called().word(i);
    }

    boolean isObject(int address) {
        return called().isObject(address);
    }

    int rootOf(int k) {
        return called().rootOf(k);
    }

    int bit(int i) {
        return called().bit(i);
    }

    int offset(int block) {
        return called().offset(block);
    }

    int moved(int i) {
        return called().moved(i);
    }

    int reads() {
        return called().reads();
    }

    int near(int steps) {
        return called().near(steps);
    }

    boolean sound() {
        return called().sound();
    }

    int count(int what) {
        return called().count(what);
    }

    /** Words 0 .. n, without the zeros at the end. */
    String words() {
        int n = count(3);
        StringBuilder all = new StringBuilder();
        for (int i = 0; i <= n; i++) {
            all.append(word(i)).append(' ');
        }
        return all.toString().replaceAll("( 0)* $", "");
    }

    /** Bits 0 .. n. */
    String bits() {
        int n = count(3);
        StringBuilder all = new StringBuilder();
        for (int i = 0; i <= n; i++) {
            all.append(bit(i));
        }
        return all.toString();
    }

    /** What the last collecting left: bits, offsets, where words went, and how many were read. */
    String lastCollecting() {
        int n = count(3);
        StringBuilder all = new StringBuilder();
        for (int i = -1; i <= n + 1; i++) {
            tell(all, "bit", i, bit(i));
            tell(all, "moved", i, moved(i));
        }
        int blocks = count(4);
        for (int b = -1; b <= blocks; b++) {
            tell(all, "offset", b, offset(b));
        }
        tell(all, "reads", 0, reads());
        return all.toString();
    }

    /** All that can be asked; some hundred calls with 16 words. */
    String answers() {
        int n = count(3);
        StringBuilder all = new StringBuilder(lastCollecting());
        for (int i = -1; i <= n + 1; i++) {
            tell(all, "word", i, word(i));
            tell(all, "isObject", i, isObject(i) ? 1 : 0);
        }
        for (int k = -1; k <= 8; k++) {
            tell(all, "rootOf", k, rootOf(k));
        }
        for (int steps : new int[] {0, 1, 2, 100}) {
            tell(all, "near", steps, near(steps));
        }
        tell(all, "sound", 0, sound() ? 1 : 0);
        for (int what = 0; what <= 4; what++) {
            tell(all, "count", what, count(what));
        }
        return all.toString();
    }

    private static void tell(StringBuilder all, String call, int argument, int answer) {
        all.append(call).append('(').append(argument).append(") = ").append(answer).append('\n');
    }
}
