import java.util.ArrayList;
import java.util.List;

/**
 * Every call with arguments from both sides of each bound, the least and the greatest int among
 * them, in states from empty to full: the answer is the due one, nothing is thrown (LANGUAGE.md,
 * rule 7), and a call that is refused, or that only asks, changes nothing that the others answer.
 */
public final class RefusedCallsTest {
    private static final int LEAST = Integer.MIN_VALUE;
    private static final int GREATEST = Integer.MAX_VALUE;
    private static final int N = 16;
    private static final int BAD = -1;
    private static final int YES = 1;
    private static final int NO = 0;
    private static int wrong = 0;

    private static final int[] ADDRESSES = {LEAST, LEAST + 1, LEAST + 9, -9, -1, 0, 1, 2, 3, 4, 5, 6, 7, 8, 9, 10, 11, 12,
        13, 14, 15, 16, 17, 18, 64, 4001, GREATEST - 9, GREATEST - 1, GREATEST};
    private static final int[] PLACES = {LEAST, LEAST + 1, -10, -2, -1, 0, 1, 2, 3, 5, 6, 7, 14, 15, 16, 99, 100, 101,
        GREATEST - 1, GREATEST};
    private static final int[] COUNTS = {LEAST, LEAST + 1, -1, 0, 1, 2, 6, 7, 14, 15, 16, 17, 99, 100, 101, 1 << 24, 1 << 28,
        GREATEST - 1, GREATEST};
    private static final int[] NUMBERS = {LEAST, LEAST + 1, -1, 0, 1, 2, 3, 4, 5, 6, 7, 8, 9, 15, 16, 17, 63, 64, 99, 100, 101,
        GREATEST - 1, GREATEST};
    private static final int[] VALUES = {LEAST, -1, 0, 7, GREATEST};

    private interface Calls {
        void on(CountedHeap h);
    }

    private interface Call {
        int on(CountedHeap h);
    }

    /** What calls lead to, and the objects that are there then: address, references, plain words. */
    private static final class State {
        final String name;
        final int top;
        final int[][] objects;
        final Calls way;
        final String answers;
        final String answersAfterCollecting;

        State(String name, int top, int[][] objects, Calls way) {
            this.name = name;
            this.top = top;
            this.objects = objects;
            this.way = way;
            CountedHeap h = reach();
            answers = h.answers();
            h.collect();
            answersAfterCollecting = h.answers();
        }

        CountedHeap reach() {
            CountedHeap h = new CountedHeap(N, 8);
            way.on(h);
            return h;
        }

        int[] object(int address) {
            for (int[] object : objects) {
                if (object[0] == address) {
                    return object;
                }
            }
            return null;
        }

        boolean isObjectOrNone(int address) {
            return address == 0 || object(address) != null;
        }
    }

    private static List<State> states() {
        List<State> all = new ArrayList<>();
        all.add(new State("empty", 1, new int[][] {}, h -> { }));
        all.add(new State("some", 11, new int[][] {{1, 1, 2}, {5, 0, 0}, {6, 2, 1}, {10, 0, 0}}, RefusedCallsTest::makeSome));
        all.add(new State("full", 17, new int[][] {{1, 3, 3}, {8, 0, 7}, {16, 0, 0}}, RefusedCallsTest::makeFull));
        all.add(new State("one object full", 17, new int[][] {{1, 15, 0}}, h -> {
            h.make(15, 0);
            h.refer(1, 14, 1);
            h.root(3, 1);
        }));
        all.add(new State("collected some", 10, new int[][] {{1, 1, 2}, {5, 2, 1}, {9, 0, 0}}, h -> {
            makeSome(h);
            h.refer(6, 1, 0);
            h.root(7, 10);
            h.collect();
        }));
        all.add(new State("collected and made full", 17, new int[][] {{1, 1, 2}, {5, 2, 1}, {9, 1, 6}}, h -> {
            makeSome(h);
            h.refer(6, 1, 0);
            h.root(7, 0);
            h.collect();
            h.make(1, 6);
            h.refer(9, 0, 5);
            h.set(9, 5, 9);
        }));
        all.add(new State("collected all of full", 17, new int[][] {{1, 3, 3}, {8, 0, 7}, {16, 0, 0}}, h -> {
            makeFull(h);
            h.collect();
        }));
        all.add(new State("collected none of full", 1, new int[][] {}, h -> {
            makeFull(h);
            h.root(0, 0);
            h.root(7, 0);
            h.collect();
        }));
        return all;
    }

    private static void makeSome(CountedHeap h) {
        h.make(1, 2);
        h.make(0, 0);
        h.make(2, 1);
        h.make(0, 0);
        h.refer(1, 0, 6);
        h.refer(6, 0, 1);
        h.refer(6, 1, 5);
        h.set(1, 1, -1);
        h.set(6, 0, 5);
        h.root(0, 6);
        h.root(7, 10);
    }

    private static void makeFull(CountedHeap h) {
        h.make(3, 3);
        h.make(0, 7);
        h.make(0, 0);
        h.refer(1, 0, 16);
        h.refer(1, 2, 8);
        h.set(1, 2, LEAST);
        h.set(8, 0, GREATEST);
        h.set(8, 6, -1);
        h.root(0, 1);
        h.root(7, 16);
    }

    public static void main(String[] args) {
        for (State state : states()) {
            makes(state);
            refers(state);
            sets(state);
            roots(state);
            asks(state);
        }
        laterCallsThrowNothing();
        System.out.println(wrong == 0 ? "refused calls change nothing" : wrong + " answers are not as due");
        if (wrong != 0) {
            System.exit(1);
        }
    }

    private static void tell(State state, String call, String fault) {
        wrong++;
        if (wrong < 50) {
            System.out.println(state.name + ": " + call + " " + fault);
        }
    }

    /** The call on a heap in the state; null if it threw. */
    private static CountedHeap called(State state, String name, Call call, int due) {
        CountedHeap h = state.reach();
        try {
            int got = call.on(h);
            if (got != due) {
                tell(state, name, "answered " + got + ", due is " + due);
            }
            return h;
        } catch (RuntimeException | Error e) {
            tell(state, name, "threw " + e);
            return null;
        }
    }

    private static void changesNothing(State state, String name, Call call, int due) {
        CountedHeap h = called(state, name, call, due);
        if (h == null) {
            return;
        }
        same(state, name + ", then", h.answers(), state.answers);
        h.collect();
        same(state, name + ", then collect(), then", h.answers(), state.answersAfterCollecting);
    }

    private static void same(State state, String name, String got, String due) {
        if (got.equals(due)) {
            return;
        }
        String[] gotLines = got.split("\n");
        String[] dueLines = due.split("\n");
        for (int i = 0; i < dueLines.length; i++) {
            if (!gotLines[i].equals(dueLines[i])) {
                tell(state, name, gotLines[i] + ", due is " + dueLines[i]);
                return;
            }
        }
    }

    /** Behind the 512th call answers are free, but not to throw and not to fail to end. */
    private static void laterCallsThrowNothing() {
        OffsetHeap h = new OffsetHeap(GREATEST, LEAST);
        int call = 0;
        try {
            for (call = 1; call <= 20000; call++) {
                int a = ADDRESSES[call % ADDRESSES.length];
                int b = PLACES[call / 3 % PLACES.length];
                int c = COUNTS[call / 7 % COUNTS.length];
                h.make(c, b);
                h.make(call % 16, call % 101);
                h.refer(h.rootOf(call % 8), b, h.rootOf(call / 8 % 8));
                h.refer(a, b, c);
                h.set(h.rootOf(call % 8), b, c);
                h.root(b, a);
                h.root(call % 8, h.moved(h.rootOf(call / 5 % 8)));
                h.near(c);
                h.sound();
                if (call % 37 == 0) {
                    h.collect();
                }
            }
        } catch (RuntimeException | Error e) {
            wrong++;
            System.out.println("turn " + call + " of a long run threw " + e);
        }
    }

    private static void makes(State state) {
        for (int references : COUNTS) {
            for (int words : COUNTS) {
                boolean bad = references < 0 || references > 15 || words < 0 || words > 100;
                boolean room = !bad && state.top + references + words <= N;
                String name = "make(" + references + ", " + words + ")";
                Call call = h -> h.make(references, words);
                if (room) {
                    called(state, name, call, state.top);
                } else {
                    changesNothing(state, name, call, bad ? BAD : 0);
                }
            }
        }
    }

    private static void refers(State state) {
        for (int object : ADDRESSES) {
            for (int k : PLACES) {
                for (int to : ADDRESSES) {
                    int[] there = state.object(object);
                    boolean good = there != null && k >= 0 && k < there[1] && state.isObjectOrNone(to);
                    yesOrNo(state, "refer(" + object + ", " + k + ", " + to + ")", h -> h.refer(object, k, to) ? YES : NO, good);
                }
            }
        }
    }

    private static void sets(State state) {
        for (int object : ADDRESSES) {
            for (int k : PLACES) {
                for (int v : VALUES) {
                    int[] there = state.object(object);
                    boolean good = there != null && k >= 0 && k < there[2];
                    yesOrNo(state, "set(" + object + ", " + k + ", " + v + ")", h -> h.set(object, k, v) ? YES : NO, good);
                }
            }
        }
    }

    private static void roots(State state) {
        for (int k : PLACES) {
            for (int object : ADDRESSES) {
                boolean good = k >= 0 && k <= 7 && state.isObjectOrNone(object);
                yesOrNo(state, "root(" + k + ", " + object + ")", h -> h.root(k, object) ? YES : NO, good);
            }
        }
    }

    private static void yesOrNo(State state, String name, Call call, boolean good) {
        if (good) {
            called(state, name, call, YES);
        } else {
            changesNothing(state, name, call, NO);
        }
    }

    /** What these answer in range is tested elsewhere; here, BAD out of range and no change at all. */
    private static void asks(State state) {
        for (int i : NUMBERS) {
            asksOnly(state, "word(" + i + ")", h -> h.word(i), i < 0 || i > N);
            asksOnly(state, "bit(" + i + ")", h -> h.bit(i), i < 0 || i > N);
            asksOnly(state, "moved(" + i + ")", h -> h.moved(i), i < 0 || i > N);
            asksOnly(state, "offset(" + i + ")", h -> h.offset(i), i < 0 || i > 2);
            asksOnly(state, "rootOf(" + i + ")", h -> h.rootOf(i), i < 0 || i > 7);
            asksOnly(state, "near(" + i + ")", h -> h.near(i), i < 0 || i > 100);
            asksOnly(state, "count(" + i + ")", h -> h.count(i), i < 0 || i > 4);
        }
        for (int i : ADDRESSES) {
            changesNothing(state, "isObject(" + i + ")", h -> h.isObject(i) ? YES : NO, state.object(i) != null ? YES : NO);
        }
        changesNothing(state, "sound()", h -> h.sound() ? YES : NO, YES);
        asksOnly(state, "reads()", h -> h.reads(), false);
    }

    private static void asksOnly(State state, String name, Call call, boolean bad) {
        int due = bad ? BAD : call.on(state.reach());
        changesNothing(state, name, call, due);
    }
}
