import java.util.ArrayList;
import java.util.Collections;
import java.util.IdentityHashMap;
import java.util.List;
import java.util.Random;
import java.util.Set;

/**
 * Runs of 512 calls, chosen from fixed seeds, beside a model that is built another way:
 * objects that point at one another, from which words, bits and addresses are worked out anew.
 */
public final class ModelRunsTest {
    private static final int RUNS = 4000;
    private static final int CALLS_FOR_LAST_LOOK = 150;
    private static int wrong = 0;

    private static final class Thing {
        final Thing[] to;
        final int[] plain;
        int at;

        Thing(int references, int words, int at) {
            to = new Thing[references];
            plain = new int[words];
            this.at = at;
        }

        int size() {
            return 1 + to.length + plain.length;
        }
    }

    private static final class Model {
        final int n;
        final int b;
        final Thing[] roots = new Thing[8];
        List<Thing> things = new ArrayList<>();
        boolean[] bits;
        int top = 1;
        int collectings = 0;
        int living = 0;

        Model(int words, int block) {
            n = words < 16 ? 16 : words > 4000 ? 4000 : words;
            b = List.of(8, 16, 32, 64).contains(block) ? block : 32;
            bits = new boolean[n + 1];
        }

        Thing thing(int address) {
            for (Thing t : things) {
                if (t.at == address) {
                    return t;
                }
            }
            return null;
        }

        int make(int references, int words) {
            if (references < 0 || references > 15 || words < 0 || words > 100) {
                return -1;
            }
            Thing t = new Thing(references, words, top);
            if (top + t.size() > n + 1) {
                return 0;
            }
            things.add(t);
            top += t.size();
            return t.at;
        }

        int refer(int object, int k, int to) {
            Thing t = thing(object);
            if (t == null || k < 0 || k >= t.to.length || (to != 0 && thing(to) == null)) {
                return 0;
            }
            t.to[k] = thing(to);
            return 1;
        }

        int set(int object, int k, int v) {
            Thing t = thing(object);
            if (t == null || k < 0 || k >= t.plain.length) {
                return 0;
            }
            t.plain[k] = v;
            return 1;
        }

        int root(int k, int object) {
            if (k < 0 || k > 7 || (object != 0 && thing(object) == null)) {
                return 0;
            }
            roots[k] = thing(object);
            return 1;
        }

        Set<Thing> led(int steps) {
            Set<Thing> all = Collections.newSetFromMap(new IdentityHashMap<>());
            for (Thing r : roots) {
                if (r != null) {
                    all.add(r);
                }
            }
            int before = -1;
            for (int s = 0; s < steps && all.size() != before; s++) {
                before = all.size();
                for (Thing t : new ArrayList<>(all)) {
                    for (Thing to : t.to) {
                        if (to != null) {
                            all.add(to);
                        }
                    }
                }
            }
            return all;
        }

        int collect() {
            Set<Thing> live = led(5000);
            List<Thing> kept = new ArrayList<>();
            bits = new boolean[n + 1];
            top = 1;
            for (Thing t : things) {
                if (live.contains(t)) {
                    for (int i = 0; i < t.size(); i++) {
                        bits[t.at + i] = true;
                    }
                    t.at = top;
                    top += t.size();
                    kept.add(t);
                }
            }
            things = kept;
            collectings++;
            living = top - 1;
            return living;
        }

        int word(int i) {
            if (i < 0 || i > n) {
                return -1;
            }
            for (Thing t : things) {
                if (i >= t.at && i < t.at + t.size()) {
                    int k = i - t.at - 1;
                    if (k < 0) {
                        return t.plain.length * 256 + t.to.length * 16;
                    }
                    if (k >= t.to.length) {
                        return t.plain[k - t.to.length];
                    }
                    return t.to[k] == null ? 0 : t.to[k].at;
                }
            }
            return 0;
        }

        int bitsBefore(int i) {
            int before = 0;
            for (int j = 0; j < i && j <= n; j++) {
                before += bits[j] ? 1 : 0;
            }
            return before;
        }

        int rootOf(int k) {
            return k < 0 || k > 7 ? -1 : roots[k] == null ? 0 : roots[k].at;
        }

        int count(int what) {
            int[] all = {top, things.size(), collectings, n, (n + b) / b};
            return what < 0 || what > 4 ? -1 : all[what];
        }
    }

    private static void due(int run, String call, long got, long want) {
        if (got != want) {
            wrong++;
            if (wrong < 50) {
                System.out.println("run " + run + ": " + call + " answered " + got + ", due is " + want);
            }
        }
    }

    public static void main(String[] args) {
        for (int run = 0; run < RUNS; run++) {
            playRun(run);
        }
        System.out.println(wrong == 0 ? "all answers are the model's" : wrong + " answers are not the model's");
        if (wrong != 0) {
            System.exit(1);
        }
    }

    private static void playRun(int run) {
        Random r = new Random(run);
        int words = run % 5 == 0 ? r.nextInt(4200) : 10 + r.nextInt(400);
        int block = new int[] {8, 16, 32, 64, 8, 64, 12, -3}[r.nextInt(8)];
        CountedHeap h = new CountedHeap(words, block);
        Model m = new Model(words, block);
        int large = run % 3 == 0 ? 101 : 12;
        while (h.callsLeft() > CALLS_FOR_LAST_LOOK) {
            int choice = r.nextInt(100);
            if (choice < 70) {
                change(run, r, h, m, choice, large);
            } else {
                ask(run, r, h, m, r.nextInt(m.n + 5) - 2);
            }
        }
        lookAtWordsInARow(run, r, h, m);
    }

    private static int address(Random r, Model m) {
        int choice = r.nextInt(12);
        if (choice == 0) {
            return r.nextInt(m.n + 4) - 2;
        }
        if (choice == 1 || m.things.isEmpty()) {
            return 0;
        }
        return m.things.get(r.nextInt(m.things.size())).at;
    }

    private static void change(int run, Random r, CountedHeap h, Model m, int choice, int large) {
        if (choice < 30) {
            int references = r.nextInt(large == 101 ? 17 : 5);
            int words = r.nextInt(large + 1) - r.nextInt(2);
            due(run, "make(" + references + ", " + words + ")", h.make(references, words), m.make(references, words));
        } else if (choice < 50) {
            int object = address(r, m);
            int k = r.nextInt(5) - r.nextInt(2);
            int to = address(r, m);
            due(run, "refer(" + object + ", " + k + ", " + to + ")", h.refer(object, k, to) ? 1 : 0, m.refer(object, k, to));
        } else if (choice < 58) {
            int object = address(r, m);
            int k = r.nextInt(large) - r.nextInt(2);
            int v = r.nextBoolean() ? r.nextInt() : r.nextInt(m.n);
            due(run, "set(" + object + ", " + k + ", " + v + ")", h.set(object, k, v) ? 1 : 0, m.set(object, k, v));
        } else if (choice < 66) {
            int k = r.nextInt(10) - 1;
            int object = address(r, m);
            due(run, "root(" + k + ", " + object + ")", h.root(k, object) ? 1 : 0, m.root(k, object));
        } else {
            due(run, "collect()", h.collect(), m.collect());
        }
    }

    private static void lookAtWordsInARow(int run, Random r, CountedHeap h, Model m) {
        int i = r.nextInt(m.n + 5);
        while (h.callsLeft() > 0) {
            ask(run, r, h, m, i % (m.n + 5) - 2);
            if (r.nextInt(3) == 0) {
                i++;
            }
        }
    }

    /** One call, about word i or something else. */
    private static void ask(int run, Random r, CountedHeap h, Model m, int i) {
        int few = r.nextInt(12) - 2;
        boolean none = i < 0 || i > m.n;
        switch (r.nextInt(10)) {
            case 0: due(run, "word(" + i + ")", h.word(i), m.word(i)); break;
            case 1: due(run, "isObject(" + i + ")", h.isObject(i) ? 1 : 0, m.thing(i) == null ? 0 : 1); break;
            case 2: due(run, "bit(" + i + ")", h.bit(i), none ? -1 : m.bits[i] ? 1 : 0); break;
            case 3: due(run, "moved(" + i + ")", h.moved(i), none ? -1 : m.bits[i] ? 1 + m.bitsBefore(i) : 0); break;
            case 4: askBlock(run, h, m, r.nextInt(m.n / m.b + 4) - 1); break;
            case 5: askNear(run, h, m, r.nextBoolean() ? few : r.nextInt(104) - 2); break;
            case 6: due(run, "count(" + few + ")", h.count(few), m.count(few)); break;
            case 7: due(run, "rootOf(" + few + ")", h.rootOf(few), m.rootOf(few)); break;
            case 8: due(run, "reads()", h.reads(), m.living); break;
            default: due(run, "sound()", h.sound() ? 1 : 0, 1); break;
        }
    }

    private static void askBlock(int run, CountedHeap h, Model m, int b) {
        due(run, "offset(" + b + ")", h.offset(b), b < 0 || b * m.b > m.n ? -1 : m.bitsBefore(b * m.b));
    }

    private static void askNear(int run, CountedHeap h, Model m, int steps) {
        due(run, "near(" + steps + ")", h.near(steps), steps < 0 || steps > 100 ? -1 : m.led(steps).size());
    }
}
