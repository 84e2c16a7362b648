import java.util.Objects;

/** Each promise by itself: ordinary inputs, the edges that the document names, and wrong inputs. */
public final class PromisesTest {
    private static final int[] FAR = {Integer.MIN_VALUE, Integer.MIN_VALUE + 1, -1, Integer.MAX_VALUE - 1, Integer.MAX_VALUE};
    private static int wrong = 0;

    private static void due(String what, Object got, Object want) {
        if (!Objects.equals(got, want)) {
            wrong++;
            System.out.println(what + " answered " + got + ", due is " + want);
        }
    }

    public static void main(String[] args) {
        promise1NewObject();
        promise1Limits();
        promise2Make();
        promise2Room();
        promise3Refer();
        promise3ToItself();
        promise4Set();
        promise5Root();
        promise6Collect();
        promise6CollectCircle();
        promise6CollectLongChain();
        promise6CollectClearsBehindTop();
        promise7Word();
        promise8IsObject();
        promise9RootOf();
        promise10Bit();
        promise11Offset();
        promise11OffsetForEachBlockSize();
        promise12Moved();
        promise13Reads();
        promise14Near();
        promise14NearLongChain();
        promise15Sound();
        promise16Count();
        wrongCallsChangeNothing();
        System.out.println(wrong == 0 ? "all promises hold" : wrong + " answers are not as due");
        if (wrong != 0) {
            System.exit(1);
        }
    }

    /**
     * Objects at 1 (1 reference, 2 words), 5 (no reference, 3 words), 9 (2 references, 1 word) and
     * 13 (1 reference); root 2 leads to 9, 9 to 1 and 13; 5 is led to by none.
     */
    private static CountedHeap small() {
        CountedHeap h = new CountedHeap(40, 8);
        h.make(1, 2);
        h.make(0, 3);
        h.make(2, 1);
        h.make(1, 0);
        h.set(1, 0, 11);
        h.set(1, 1, 12);
        h.set(5, 0, 13);
        h.set(9, 0, 14);
        h.refer(9, 0, 13);
        h.refer(9, 1, 1);
        h.root(2, 9);
        return h;
    }

    private static void promise1NewObject() {
        CountedHeap h = new CountedHeap(100, 16);
        due("1: top", h.count(0), 1);
        due("1: objects", h.count(1), 0);
        due("1: collectings", h.count(2), 0);
        due("1: greatest word", h.count(3), 100);
        due("1: blocks", h.count(4), 7);
        for (int k = 0; k < 8; k++) {
            due("1: rootOf " + k, h.rootOf(k), 0);
        }
        for (int i = 0; i <= 100; i++) {
            due("1: word " + i, h.word(i), 0);
            due("1: bit " + i, h.bit(i), 0);
            due("1: moved " + i, h.moved(i), 0);
            due("1: isObject " + i, h.isObject(i), false);
        }
        for (int b = 0; b < 7; b++) {
            due("1: offset " + b, h.offset(b), 0);
        }
        due("1: reads", h.reads(), 0);
        due("1: near", h.near(100), 0);
        due("1: sound", h.sound(), true);
    }

    private static void promise1Limits() {
        int[][] sizes = {{15, 16}, {16, 16}, {17, 17}, {0, 16}, {3999, 3999}, {4000, 4000}, {4001, 4000},
            {Integer.MIN_VALUE, 16}, {Integer.MAX_VALUE, 4000}};
        for (int[] size : sizes) {
            due("1: greatest word of " + size[0], new CountedHeap(size[0], 8).count(3), size[1]);
        }
        int[][] blocks = {{8, 126}, {16, 63}, {32, 32}, {64, 16}, {0, 32}, {-8, 32}, {4, 32}, {9, 32}, {24, 32},
            {128, 32}, {Integer.MIN_VALUE, 32}, {Integer.MAX_VALUE, 32}};
        for (int[] block : blocks) {
            due("1: blocks of " + block[0], new CountedHeap(1000, block[0]).count(4), block[1]);
        }
        due("1: blocks of 8 in 63", new CountedHeap(63, 8).count(4), 8);
        due("1: blocks of 8 in 64", new CountedHeap(64, 8).count(4), 9);
    }

    private static void promise2Make() {
        CountedHeap h = new CountedHeap(300, 8);
        due("2: make 0 0", h.make(0, 0), 1);
        due("2: make 15 100", h.make(15, 100), 2);
        due("2: make 0 100", h.make(0, 100), 118);
        due("2: make 15 0", h.make(15, 0), 219);
        due("2: header 0 0", h.word(1), 0);
        due("2: header 15 100", h.word(2), 25840);
        due("2: header 0 100", h.word(118), 25600);
        due("2: header 15 0", h.word(219), 240);
        due("2: top", h.count(0), 235);
        due("2: references and words are 0", h.word(3) | h.word(17) | h.word(18) | h.word(117), 0);
        int[][] bad = {{-1, 0}, {0, -1}, {16, 0}, {0, 101}, {16, 101}};
        for (int[] b : bad) {
            due("2: make " + b[0] + " " + b[1], h.make(b[0], b[1]), OffsetHeap.BAD);
        }
        for (int far : FAR) {
            due("2: make far references", h.make(far, 0), OffsetHeap.BAD);
            due("2: make far words", h.make(0, far), OffsetHeap.BAD);
            due("2: make far both", h.make(far, far), OffsetHeap.BAD);
        }
        due("2: top after bad ones", h.count(0), 235);
        due("2: objects after bad ones", h.count(1), 4);
    }

    private static void promise2Room() {
        CountedHeap h = new CountedHeap(16, 8);
        due("2: one too many", h.make(0, 16), 0);
        due("2: one too many, references too", h.make(15, 1), 0);
        due("2: objects", h.count(1), 0);
        due("2: exactly all", h.make(15, 0), 1);
        due("2: full", h.make(0, 0), 0);
        due("2: bad when full", h.make(0, 101), OffsetHeap.BAD);
        due("2: top when full", h.count(0), 17);
        due("2: objects when full", h.count(1), 1);
        h.collect();
        due("2: room after collecting", h.make(0, 0), 1);
        due("2: the last words", h.make(0, 14), 2);
        due("2: full again", h.make(0, 0), 0);
    }

    private static void promise3Refer() {
        CountedHeap h = small();
        due("3: refer 1 0 5", h.refer(1, 0, 5), true);
        due("3: word 2", h.word(2), 5);
        due("3: to none", h.refer(1, 0, 0), true);
        due("3: word 2 of none", h.word(2), 0);
        due("3: to itself", h.refer(9, 1, 9), true);
        due("3: word 11", h.word(11), 9);
        due("3: word 10 stays", h.word(10), 13);
        String before = h.words();
        due("3: reference 1 of 1", h.refer(1, 1, 5), false);
        due("3: reference 2 of 2", h.refer(9, 2, 5), false);
        due("3: reference -1", h.refer(9, -1, 5), false);
        due("3: no references", h.refer(5, 0, 1), false);
        due("3: no object", h.refer(2, 0, 1), false);
        due("3: object 0", h.refer(0, 0, 1), false);
        due("3: object at the top", h.refer(15, 0, 1), false);
        due("3: to no object", h.refer(1, 0, 6), false);
        due("3: to the top", h.refer(1, 0, 15), false);
        for (int far : FAR) {
            due("3: far object", h.refer(far, 0, 1), false);
            due("3: far reference", h.refer(1, far, 1), false);
            due("3: far to", h.refer(1, 0, far), false);
        }
        due("3: words after wrong ones", h.words(), before);
    }

    /** What refer refuses is named in full; that an object leads to itself is not among it. */
    private static void promise3ToItself() {
        CountedHeap h = new CountedHeap(40, 8);
        h.make(0, 2);
        h.make(2, 1);
        due("3: first reference to itself", h.refer(4, 0, 4), true);
        due("3: second reference to itself", h.refer(4, 1, 4), true);
        due("3: words that lead to their own header", h.words(), "0 512 0 0 288 4 4");
        due("3: by itself alone it does not live", h.near(100), 0);
        h.root(5, 4);
        due("3: it counts once", h.near(100), 1);
        due("3: it lives once", h.collect(), 4);
        due("3: it leads to itself where it went", h.words(), "0 288 1 1");
        due("3: sound", h.sound(), true);
        h.root(5, 0);
        due("3: it does not keep itself", h.collect(), 0);
    }

    private static void promise4Set() {
        CountedHeap h = small();
        due("4: set 9 0", h.set(9, 0, Integer.MIN_VALUE), true);
        due("4: word 12", h.word(12), Integer.MIN_VALUE);
        due("4: set 5 2", h.set(5, 2, Integer.MAX_VALUE), true);
        due("4: word 8", h.word(8), Integer.MAX_VALUE);
        due("4: set 1 1", h.set(1, 1, -1), true);
        due("4: word 4", h.word(4), -1);
        String before = h.words();
        due("4: word 1 of 1", h.set(9, 1, 7), false);
        due("4: word 2 of 2", h.set(1, 2, 7), false);
        due("4: word -1", h.set(1, -1, 7), false);
        due("4: no words", h.set(13, 0, 7), false);
        due("4: no object", h.set(3, 0, 7), false);
        due("4: object 0", h.set(0, 0, 7), false);
        due("4: object at the top", h.set(15, 0, 7), false);
        for (int far : FAR) {
            due("4: far object", h.set(far, 0, 7), false);
            due("4: far word", h.set(1, far, 7), false);
        }
        due("4: words after wrong ones", h.words(), before);
    }

    private static void promise5Root() {
        CountedHeap h = small();
        due("5: root 0", h.root(0, 1), true);
        due("5: root 7", h.root(7, 13), true);
        due("5: root 7 is", h.rootOf(7), 13);
        due("5: root 7 none", h.root(7, 0), true);
        due("5: root 7 is none", h.rootOf(7), 0);
        due("5: root 8", h.root(8, 1), false);
        due("5: root -1", h.root(-1, 1), false);
        due("5: root 8 none", h.root(8, 0), false);
        due("5: no object", h.root(0, 2), false);
        due("5: at the top", h.root(0, 15), false);
        for (int far : FAR) {
            due("5: far root", h.root(far, 1), false);
            due("5: far object", h.root(0, far), false);
        }
        due("5: root 0 stays", h.rootOf(0), 1);
    }

    private static void promise6Collect() {
        CountedHeap h = small();
        due("6: living", h.collect(), 10);
        due("6: words", h.words(), "0 528 0 11 12 288 9 1 14 16");
        due("6: root 2", h.rootOf(2), 5);
        due("6: root 0", h.rootOf(0), 0);
        due("6: top", h.count(0), 11);
        due("6: objects", h.count(1), 3);
        due("6: again", h.collect(), 10);
        due("6: words again", h.words(), "0 528 0 11 12 288 9 1 14 16");
        h.root(2, 9);
        due("6: less lives", h.collect(), 2);
        due("6: words of less", h.words(), "0 16");
        due("6: root of less", h.rootOf(2), 1);
        h.root(2, 0);
        due("6: none lives", h.collect(), 0);
        due("6: words of none", h.words(), "0");
        due("6: objects of none", h.count(1), 0);
        due("6: collectings", h.count(2), 4);
        due("6: an empty one", new CountedHeap(16, 8).collect(), 0);
    }

    /** Plain words that look like addresses and headers stay as they are. */
    private static void promise6CollectCircle() {
        CountedHeap h = new CountedHeap(100, 8);
        h.make(0, 4);
        h.make(1, 2);
        h.make(1, 1);
        h.refer(6, 0, 10);
        h.refer(10, 0, 6);
        h.set(6, 0, 10);
        h.set(6, 1, 800);
        h.set(10, 0, 1);
        due("6: a circle that no root leads to, kept", h.root(0, 10), true);
        due("6: root twice", h.root(1, 10), true);
        due("6: circle", h.collect(), 7);
        due("6: circle's words", h.words(), "0 528 5 10 800 272 1 1");
        due("6: both roots", h.rootOf(0) * 100 + h.rootOf(1), 505);
        h.root(0, 0);
        due("6: one root is enough", h.collect(), 7);
        h.root(1, 0);
        due("6: a circle alone dies", h.collect(), 0);
    }

    /** Ways longer than near allows count for living too. */
    private static void promise6CollectLongChain() {
        CountedHeap h = new CountedHeap(4000, 64);
        for (int i = 0; i < 200; i++) {
            h.make(1, 0);
        }
        for (int i = 199; i > 0; i--) {
            h.refer(1 + 2 * i, 0, 2 * i - 1);
        }
        h.root(4, 399);
        due("6: a chain of 200", h.collect(), 400);
        due("6: its objects", h.count(1), 200);
        due("6: its root", h.rootOf(4), 399);
    }

    private static void promise6CollectClearsBehindTop() {
        CountedHeap h = new CountedHeap(16, 8);
        for (int turn = 0; turn < 4; turn++) {
            due("6: make", h.make(0, 15), 1);
            for (int k = 0; k < 15; k++) {
                due("6: made words are 0", h.word(2 + k), 0);
                h.set(1, k, 77);
            }
            h.collect();
            due("6: behind the top", h.words(), "0");
        }
    }

    private static void promise7Word() {
        CountedHeap h = small();
        due("7: all words", h.words(), "0 528 0 11 12 768 13 0 0 288 13 1 14 16");
        due("7: word 0", h.word(0), 0);
        due("7: word n", h.word(40), 0);
        due("7: word n + 1", h.word(41), OffsetHeap.BAD);
        for (int far : FAR) {
            due("7: far word", h.word(far), OffsetHeap.BAD);
        }
        h.set(1, 0, -1);
        due("7: a word that is BAD", h.word(3), -1);
    }

    private static void promise8IsObject() {
        CountedHeap h = small();
        for (int i = -1; i <= 42; i++) {
            due("8: isObject " + i, h.isObject(i), i == 1 || i == 5 || i == 9 || i == 13);
        }
        for (int far : FAR) {
            due("8: far", h.isObject(far), false);
        }
        h.collect();
        for (int i = -1; i <= 42; i++) {
            due("8: isObject after collecting " + i, h.isObject(i), i == 1 || i == 5 || i == 9);
        }
        CountedHeap headers = new CountedHeap(20, 8);
        headers.make(0, 0);
        headers.make(0, 1);
        headers.make(0, 0);
        due("8: headers of 0", headers.isObject(1) && headers.isObject(4), true);
        due("8: a word of 0", headers.isObject(3), false);
        due("8: behind the top", headers.isObject(5), false);
    }

    private static void promise9RootOf() {
        CountedHeap h = small();
        h.root(0, 1);
        h.root(7, 13);
        int[] want = {1, 0, 9, 0, 0, 0, 0, 13};
        for (int k = 0; k < 8; k++) {
            due("9: rootOf " + k, h.rootOf(k), want[k]);
        }
        due("9: rootOf 8", h.rootOf(8), OffsetHeap.BAD);
        for (int far : FAR) {
            due("9: far root", h.rootOf(far), OffsetHeap.BAD);
        }
    }

    private static void promise10Bit() {
        CountedHeap h = small();
        due("10: before a collecting", h.bits().contains("1"), false);
        h.collect();
        String want = "011110000111111" + "0".repeat(26);
        due("10: bits", h.bits(), want);
        h.make(0, 20);
        h.root(2, 0);
        due("10: bits stay", h.bits(), want);
        h.collect();
        due("10: bits of none", h.bits().contains("1"), false);
        due("10: bit n + 1", h.bit(41), OffsetHeap.BAD);
        for (int far : FAR) {
            due("10: far bit", h.bit(far), OffsetHeap.BAD);
        }
    }

    private static void promise11Offset() {
        CountedHeap h = small();
        h.collect();
        int[] want = {0, 4, 10, 10, 10, 10};
        for (int b = 0; b < want.length; b++) {
            due("11: offset " + b, h.offset(b), want[b]);
        }
        due("11: offset behind the last", h.offset(6), OffsetHeap.BAD);
        for (int far : FAR) {
            due("11: far block", h.offset(far), OffsetHeap.BAD);
        }
        h.make(3, 3);
        h.root(2, 0);
        due("11: offsets stay", h.offset(1), 4);
        h.collect();
        due("11: offsets of none", h.offset(5), 0);
    }

    private static void promise11OffsetForEachBlockSize() {
        for (int size = 8; size <= 64; size *= 2) {
            CountedHeap h = new CountedHeap(200, size);
            h.make(0, 0);
            h.make(0, 99);
            h.make(0, 98);
            h.root(0, 2);
            h.collect();
            for (int b = 0; b < h.count(4); b++) {
                int want = Math.max(0, Math.min(100, b * size - 2));
                due("11: offset " + b + " of blocks of " + size, h.offset(b), want);
            }
            for (int i = 2; i < 102; i++) {
                due("12: moved " + i + " with blocks of " + size, h.moved(i), i - 1);
            }
            due("11: block behind, of " + size, h.offset(200 / size + 1), OffsetHeap.BAD);
            due("11: last block, of " + size, h.offset(200 / size), 100);
        }
    }

    private static void promise12Moved() {
        CountedHeap h = small();
        due("12: before a collecting", h.moved(1), 0);
        h.collect();
        int[] want = {0, 1, 2, 3, 4, 0, 0, 0, 0, 5, 6, 7, 8, 9, 10, 0, 0};
        for (int i = 0; i < want.length; i++) {
            due("12: moved " + i, h.moved(i), want[i]);
        }
        h.make(0, 20);
        h.root(2, 0);
        due("12: stays", h.moved(13), 9);
        due("12: moved n", h.moved(40), 0);
        due("12: moved n + 1", h.moved(41), OffsetHeap.BAD);
        for (int far : FAR) {
            due("12: far word", h.moved(far), OffsetHeap.BAD);
        }
        CountedHeap full = new CountedHeap(16, 8);
        full.make(0, 15);
        full.root(0, 1);
        full.collect();
        due("12: the last word", full.moved(16), 16);
    }

    private static void promise13Reads() {
        CountedHeap h = small();
        due("13: before a collecting", h.reads(), 0);
        h.collect();
        due("13: reads", h.reads(), 10);
        h.make(5, 5);
        due("13: stays", h.reads(), 10);
        h.root(2, 9);
        h.collect();
        due("13: the last one's alone", h.reads(), 2);
        h.root(2, 0);
        h.collect();
        due("13: none", h.reads(), 0);
    }

    private static void promise14Near() {
        CountedHeap h = small();
        h.refer(13, 0, 5);
        due("14: near 0", h.near(0), 1);
        due("14: near 1", h.near(1), 3);
        due("14: near 2", h.near(2), 4);
        due("14: near 100", h.near(100), 4);
        h.root(5, 9);
        due("14: two roots to one object", h.near(0), 1);
        h.root(6, 13);
        due("14: the shortest way counts", h.near(1), 4);
        h.refer(1, 0, 9);
        due("14: a circle", h.near(100), 4);
        due("14: near -1", h.near(-1), OffsetHeap.BAD);
        due("14: near 101", h.near(101), OffsetHeap.BAD);
        for (int far : FAR) {
            due("14: far", h.near(far), OffsetHeap.BAD);
        }
        due("14: no collecting", h.count(2) + h.bit(9), 0);
        h.collect();
        due("14: after collecting", h.near(0) * 10 + h.near(1), 24);
    }

    private static void promise14NearLongChain() {
        CountedHeap h = new CountedHeap(4000, 32);
        for (int i = 0; i < 120; i++) {
            h.make(1, 0);
            h.refer(2 * i - 1, 0, 2 * i + 1);
        }
        h.root(0, 1);
        due("14: 99 of a chain", h.near(99), 100);
        due("14: 100 of a chain", h.near(100), 101);
        due("14: 0 of a chain", h.near(0), 1);
    }

    private static void promise15Sound() {
        CountedHeap h = small();
        due("15: before a collecting", h.sound(), true);
        h.collect();
        due("15: after one", h.sound(), true);
        h.make(0, 0);
        h.make(2, 2);
        h.refer(12, 1, 5);
        h.refer(5, 0, 12);
        h.set(12, 0, 999);
        due("15: with more", h.sound(), true);
        h.collect();
        due("15: after two", h.sound(), true);
        h.root(2, 0);
        h.collect();
        due("15: after none lives", h.sound(), true);
        CountedHeap full = new CountedHeap(4000, 8);
        for (int i = 0; i < 100; i++) {
            full.make(2, 37);
            full.refer(1 + 40 * i, 0, 1 + 40 * (i / 3));
            full.refer(1 + 40 * (i / 2), 1, 1 + 40 * i);
        }
        full.root(0, 3961);
        due("15: full", full.make(0, 0) == 0 && full.sound(), true);
        full.collect();
        due("15: full, collected", full.sound(), true);
    }

    private static void promise16Count() {
        CountedHeap h = small();
        int[] want = {15, 4, 0, 40, 6};
        for (int what = 0; what < want.length; what++) {
            due("16: count " + what, h.count(what), want[what]);
        }
        h.collect();
        h.collect();
        int[] then = {11, 3, 2, 40, 6};
        for (int what = 0; what < then.length; what++) {
            due("16: count after collecting " + what, h.count(what), then[what]);
        }
        due("16: count 5", h.count(5), OffsetHeap.BAD);
        for (int far : FAR) {
            due("16: far", h.count(far), OffsetHeap.BAD);
        }
    }

    private static void wrongCallsChangeNothing() {
        CountedHeap h = small();
        h.collect();
        String before = h.words() + h.bits();
        for (int far : FAR) {
            h.make(far, far);
            h.refer(far, far, far);
            h.set(far, far, far);
            h.root(far, far);
            h.near(far);
        }
        h.make(0, 100);
        due("wrong calls: words and bits", h.words() + h.bits(), before);
        due("wrong calls: top", h.count(0), 11);
        due("wrong calls: objects", h.count(1), 3);
        due("wrong calls: root", h.rootOf(2), 5);
    }
}
