import java.util.Objects;

/**
 * A test of its own for each sentence of the document that names a boundary case: the last value
 * that is taken and the first that is refused on either side, the empty object and the full one.
 * That refused calls change nothing, and that none throws, is tested in RefusedCallsTest.
 */
public final class BoundaryTest {
    private static final int BAD = -1;
    private static final int LEAST = Integer.MIN_VALUE;
    private static final int GREATEST = Integer.MAX_VALUE;
    private static int wrong = 0;

    private static void due(String what, Object got, Object want) {
        if (!Objects.equals(got, want)) {
            wrong++;
            System.out.println(what + " answered " + got + ", due is " + want);
        }
    }

    public static void main(String[] args) {
        usedFor512Calls();
        manyCollectings();
        objectsDoNotShareState();
        word0Is0();
        referencesAreHeadersOrNone();
        plainWords0To100();
        references0To15();
        freshSpaceIs0BehindItsTop();
        bitsAndOffsetsStayUntilTheNextTime();
        promise1WordsAreBroughtWithin();
        promise1BlocksOf8To64();
        promise1NothingYet();
        promise2NoRoom();
        promise2NoRoomWithAllWords();
        promise2Bad();
        promise3ToNone();
        promise3NoSuchObjects();
        promise3NoSuchReference();
        promise4NoneSuch();
        promise5Roots0To7();
        promise5NoSuchObjectOr0();
        promise6NoneLives();
        promise6SomeLive();
        promise6AllLive();
        promise7Words0ToN();
        promise7BadMayBeAWord();
        promise8ObjectBeginsAtAddress();
        promise8NoneBehindTheLastWord();
        promise9NoSuchRoot();
        promise10Bits0ToN();
        promise11BlocksWithWords0ToN();
        promise12MovedWords0ToN();
        promise13ReadsBeforeOne();
        promise14Steps0To100();
        promise15SoundAtTheEdges();
        promise16Counts0To4();
        rule10WrapAround();
        System.out.println(wrong == 0 ? "all boundary cases hold" : wrong + " answers are not as due");
        if (wrong != 0) {
            System.exit(1);
        }
    }

    /** Objects at 1 (15 words) or, with two of them, 1 (7 words) and 9 (7 words): no word is left. */
    private static CountedHeap full16(int objects) {
        CountedHeap h = new CountedHeap(16, 8);
        for (int made = 0; made < objects; made++) {
            h.make(0, 16 / objects - 1);
        }
        return h;
    }

    /** 4,000 words in objects of 100 words, one leading to the next: 1, 101, .. 3901. */
    private static CountedHeap full4000(int block) {
        CountedHeap h = new CountedHeap(4000, block);
        for (int made = 0; made < 40; made++) {
            h.make(1, 98);
            h.refer(1 + 100 * (made - 1), 0, 1 + 100 * made);
        }
        return h;
    }

    // "An object is used for at most 512 calls after it has been made; what later calls answer is free."
    private static void usedFor512Calls() {
        CountedHeap makes = new CountedHeap(4000, 8);
        for (int call = 1; call <= 512; call++) {
            due("call " + call + ", a make", makes.make(0, 6), 7 * call - 6);
        }
        CountedHeap sets = new CountedHeap(16, 8);
        sets.make(0, 15);
        for (int call = 2; call < 512; call++) {
            due("call " + call + ", a set", sets.set(1, call % 15, call), true);
        }
        due("call 512, a word", sets.word(2 + 511 % 15), 511);
        CountedHeap chain = new CountedHeap(4000, 64);
        for (int made = 0; made < 255; made++) {
            chain.make(1, 0);
            chain.refer(2 * made - 1, 0, 2 * made + 1);
        }
        chain.root(7, 1);
        due("call 512, a collect", chain.collect(), 510);
    }

    private static void manyCollectings() {
        CountedHeap h = new CountedHeap(16, 8);
        for (int call = 1; call < 512; call++) {
            due("collecting " + call, h.collect(), 0);
        }
        due("call 512, collectings", h.count(2), 511);
        CountedHeap mixed = new CountedHeap(16, 8);
        for (int turn = 1; turn <= 128; turn++) {
            due("turn " + turn + ", make", mixed.make(turn % 2, 15 - turn % 2), 1);
            due("turn " + turn + ", root", mixed.root(turn % 8, 1), true);
            due("turn " + turn + ", no root", mixed.root(turn % 8, 0), true);
            due("turn " + turn + ", collect", mixed.collect(), 0);
        }
    }

    private static void objectsDoNotShareState() {
        CountedHeap one = new CountedHeap(16, 8);
        CountedHeap other = new CountedHeap(16, 8);
        String empty = new CountedHeap(16, 8).answers();
        one.make(1, 2);
        one.refer(1, 0, 1);
        one.set(1, 1, 5);
        one.root(3, 1);
        one.collect();
        due("the other object", other.answers(), empty);
    }

    // "Word 0 is 0."
    private static void word0Is0() {
        CountedHeap h = new CountedHeap(16, 8);
        due("word 0 of a new one", h.word(0), 0);
        h.make(1, 14);
        h.refer(1, -2, 1);
        h.refer(1, -1, 1);
        h.refer(0, 0, 1);
        h.refer(0, -1, 1);
        h.set(1, -3, 7);
        h.set(1, -2, 7);
        h.set(0, 0, 7);
        h.set(0, -1, 7);
        due("word 0 of a full one", h.word(0), 0);
        h.root(0, 1);
        h.collect();
        due("word 0 when all live", h.word(0), 0);
        due("bit 0 when all live", h.bit(0), 0);
        due("moved 0 when all live", h.moved(0), 0);
        due("isObject 0", h.isObject(0), false);
        h.root(0, 0);
        h.collect();
        h.collect();
        due("word 0 when none live", h.word(0), 0);
    }

    // "addresses of objects' headers, 0 for none"
    private static void referencesAreHeadersOrNone() {
        CountedHeap h = new CountedHeap(16, 8);
        h.make(2, 0);
        h.make(3, 8);
        h.make(0, 0);
        due("references of new ones", h.words(), "0 32 0 0 2096");
        due("to the first word", h.refer(4, 0, 1), true);
        due("to the last word", h.refer(4, 2, 16), true);
        due("references", h.word(5) + " " + h.word(6) + " " + h.word(7), "1 0 16");
        for (int i = -1; i <= 18; i++) {
            boolean header = i == 1 || i == 4 || i == 16;
            due("reference to " + i, h.refer(1, 1, i), header || i == 0);
        }
        h.refer(1, 1, 0);
        h.root(0, 4);
        h.root(1, 16);
        h.collect();
        due("references when all live", h.word(5) + " " + h.word(6) + " " + h.word(7), "1 0 16");
        h.refer(4, 0, 0);
        h.collect();
        due("references of the first one", h.word(2) + " " + h.word(3) + " " + h.word(4), "0 0 13");
    }

    // "its number of plain words (0 .. 100)"
    private static void plainWords0To100() {
        CountedHeap h = new CountedHeap(4000, 8);
        int at = 1;
        for (int plain = 0; plain <= 100; plain += plain == 1 ? 98 : 1) {
            due("plain words " + plain, h.make(0, plain), at);
            due("header of " + plain, h.word(at), 256 * plain);
            due("last plain word of " + plain, h.set(at, plain - 1, 9), plain > 0);
            due("behind the last of " + plain, h.set(at, plain, 9), false);
            at += 1 + plain;
        }
        due("top", h.count(0), at);
        due("plain words 101", h.make(0, 101), BAD);
        due("plain words -1", h.make(0, -1), BAD);
    }

    // "its number of references (0 .. 15)"
    private static void references0To15() {
        CountedHeap h = new CountedHeap(4000, 8);
        int at = 1;
        for (int references = 0; references <= 15; references++) {
            due("references " + references, h.make(references, 1), at);
            due("header of " + references, h.word(at), 256 + 16 * references);
            due("last reference of " + references, h.refer(at, references - 1, at), references > 0);
            due("behind the last of " + references, h.refer(at, references, at), false);
            due("plain word behind " + references, h.word(at + references + 1), 0);
            due("set behind " + references, h.set(at, 0, 77), true);
            due("plain word set behind " + references, h.word(at + references + 1), 77);
            at += 2 + references;
        }
        due("top", h.count(0), at);
        due("references 16", h.make(16, 0), BAD);
        due("references -1", h.make(-1, 0), BAD);
        due("both at their most", h.make(15, 100), at);
        due("header of both", h.word(at), 25840);
        due("its last reference", h.refer(at, 14, 1) && h.word(at + 15) == 1, true);
        due("its first plain word", h.set(at, 0, -5) && h.word(at + 16) == -5, true);
        due("its last plain word", h.set(at, 99, -6) && h.word(at + 115) == -6, true);
        due("top behind both", h.count(0), at + 116);
    }

    // "The fresh space is the space then; words behind its top are 0."
    private static void freshSpaceIs0BehindItsTop() {
        CountedHeap h = full16(2);
        for (int k = 0; k < 7; k++) {
            h.set(1, k, 100 + k);
            h.set(9, k, 200 + k);
        }
        h.root(0, 9);
        h.collect();
        due("one of two lives", h.words(), "0 1792 200 201 202 203 204 205 206");
        due("a new one behind it", h.make(1, 6), 9);
        due("its words are 0", h.words(), "0 1792 200 201 202 203 204 205 206 1552");
        h.refer(9, 0, 1);
        for (int k = 0; k < 6; k++) {
            h.set(9, k, 300 + k);
        }
        h.root(0, 0);
        h.collect();
        due("none lives", h.words(), "0");
        due("the first space again", h.make(15, 0), 1);
        due("its references are 0", h.words(), "0 240");
        for (int k = 0; k < 15; k++) {
            h.refer(1, k, 1);
        }
        h.collect();
        due("none lives, again", h.words(), "0");
        due("the second space again", h.make(0, 15), 1);
        due("its plain words are 0", h.words(), "0 3840");
    }

    // "Bits and offsets stay as they were, until the next time"
    private static void bitsAndOffsetsStayUntilTheNextTime() {
        CountedHeap h = new CountedHeap(24, 8);
        h.make(0, 2);
        h.make(1, 6);
        h.make(0, 11);
        h.refer(4, 0, 12);
        h.root(6, 4);
        h.collect();
        due("bits", h.bits(), "0000" + "1".repeat(20) + "0");
        String then = h.lastCollecting();
        h.make(2, 1);
        h.refer(1, 0, 0);
        h.refer(21, 1, 1);
        h.set(21, 0, 9);
        h.root(0, 21);
        h.root(6, 0);
        h.near(100);
        h.sound();
        h.make(15, 100);
        due("what a collecting left, after changes", h.lastCollecting(), then);
        h.collect();
        due("bits of the next", h.bits(), "0" + "1".repeat(8) + "0".repeat(12) + "1111");
        due("offsets of the next", h.offset(1) + " " + h.offset(2) + " " + h.offset(3), "7 8 11");
        h.collect();
        due("bits of the one after", h.bits(), "0" + "1".repeat(12) + "0".repeat(12));
        h.root(0, 0);
        h.collect();
        due("what a collecting of none leaves", h.lastCollecting(), new CountedHeap(24, 8).lastCollecting());
    }

    // "Words 1 .. n (16 .. 4,000, brought within)"
    private static void promise1WordsAreBroughtWithin() {
        int[][] sizes = {{LEAST, 16}, {LEAST + 1, 16}, {-4000, 16}, {-1, 16}, {0, 16}, {1, 16}, {15, 16}, {16, 16},
            {17, 17}, {3999, 3999}, {4000, 4000}, {4001, 4000}, {65536, 4000}, {GREATEST - 1, 4000}, {GREATEST, 4000}};
        for (int[] size : sizes) {
            CountedHeap h = new CountedHeap(size[0], 16);
            int n = size[1];
            due("greatest word of " + size[0], h.count(3), n);
            due("blocks of " + size[0], h.count(4), n / 16 + 1);
            due("last word of " + size[0], h.word(n), 0);
            due("behind the last of " + size[0], h.word(n + 1), BAD);
            int left = n;
            while (left > 0) {
                due("room of " + size[0], h.make(0, Math.min(left, 101) - 1) > 0, true);
                left -= Math.min(left, 101);
            }
            due("no more room of " + size[0], h.make(0, 0), 0);
        }
    }

    // "blocks of B words (8, 16, 32, 64; 32 for another number)"
    private static void promise1BlocksOf8To64() {
        int[] others = {LEAST, LEAST + 8, -64, -32, -16, -8, -1, 0, 1, 2, 4, 7, 9, 12, 15, 17, 24, 31, 33, 48, 63, 65,
            128, 256, 4000, 1 << 30, GREATEST - 7, GREATEST};
        for (int block : others) {
            blocksAreOf(block, 32);
        }
        for (int block = 8; block <= 64; block *= 2) {
            blocksAreOf(block, block);
        }
    }

    /** All words live, so that the offset of each block tells where the block begins. */
    private static void blocksAreOf(int block, int due) {
        CountedHeap h = full4000(block);
        h.root(0, 1);
        h.collect();
        due("blocks of " + block, h.count(4), 4000 / due + 1);
        for (int b = 1; b <= 62; b++) {
            due("offset " + b + " with blocks of " + block, h.offset(b), b * due - 1);
        }
        int[][] edges = {{16, 8, 3}, {23, 8, 3}, {24, 8, 4}, {31, 32, 1}, {32, 32, 2}, {63, 64, 1}, {64, 64, 2}};
        for (int[] edge : edges) {
            if (edge[1] == due) {
                due("blocks of " + block + " in " + edge[0], new CountedHeap(edge[0], block).count(4), edge[2]);
            }
        }
    }

    // "No objects, roots 0; nothing was collected."
    private static void promise1NothingYet() {
        for (int n = 16; n <= 90; n++) {
            CountedHeap h = new CountedHeap(n, 8);
            due("top of a new one", h.count(0), 1);
            due("objects of a new one", h.count(1), 0);
            due("collectings of a new one", h.count(2), 0);
            due("words of a new one", h.words(), "0");
            due("bits of a new one", h.bits(), "0".repeat(n + 1));
            for (int k = 0; k < 8; k++) {
                due("root " + k + " of a new one", h.rootOf(k), 0);
            }
            for (int b = 0; b <= n / 8; b++) {
                due("offset " + b + " of a new one", h.offset(b), 0);
            }
            due("reads of a new one", h.reads(), 0);
            due("near of a new one", h.near(0) + h.near(100), 0);
            due("sound of a new one", h.sound(), true);
            due("collect of a new one", h.collect(), 0);
        }
    }

    // "0: no room."
    private static void promise2NoRoom() {
        for (int used = 0; used <= 16; used++) {
            for (int references = 0; references <= 15; references++) {
                int most = 16 - used - 1 - references;
                CountedHeap h = new CountedHeap(16, 8);
                int top = used == 0 ? 1 : h.make(0, used - 1) + used;
                due("no room behind " + used + " for " + references, h.make(references, Math.max(0, most + 1)), 0);
                due("top when there was no room", h.count(0), top);
                if (most >= 0) {
                    due("the last room behind " + used + " for " + references, h.make(references, most), top);
                    due("top when full", h.count(0), 17);
                    due("no room for the least", h.make(0, 0), 0);
                }
            }
        }
    }

    private static void promise2NoRoomWithAllWords() {
        CountedHeap h = new CountedHeap(4000, 64);
        for (int made = 0; made < 34; made++) {
            due("the greatest object " + made, h.make(15, 100), 1 + 116 * made);
        }
        due("the greatest once more", h.make(15, 100), 0);
        due("56 words of 55 and a header", h.make(0, 56), 0);
        due("the last 56 words", h.make(15, 40), 3945);
        due("objects", h.count(1), 35);
        due("top", h.count(0), 4001);
        due("none more", h.make(0, 0), 0);
        due("refused ones are BAD when full, too", h.make(16, 0) + h.make(0, 101), 2 * BAD);
        CountedHeap words = new CountedHeap(512, 8);
        for (int made = 1; made <= 511; made++) {
            words.make(0, 0);
        }
        due("the last word of 512", words.make(0, 0), 512);
    }

    // "BAD: not 0 .. 15 references, 0 .. 100 words."
    private static void promise2Bad() {
        int[] noReferences = {LEAST, LEAST + 1, -16, -1, 16, 17, 31, 256, 1 << 28, GREATEST - 1, GREATEST};
        int[] noWords = {LEAST, LEAST + 1, -101, -1, 101, 102, 127, 256, 1 << 24, GREATEST - 1, GREATEST};
        CountedHeap h = new CountedHeap(4000, 8);
        for (int references : noReferences) {
            for (int words : new int[] {0, 1, 100}) {
                due("make " + references + " " + words, h.make(references, words), BAD);
            }
        }
        for (int words : noWords) {
            for (int references : new int[] {0, 1, 15}) {
                due("make " + references + " " + words, h.make(references, words), BAD);
            }
        }
        for (int references : noReferences) {
            for (int words : noWords) {
                due("make " + references + " " + words, h.make(references, words), BAD);
            }
        }
        due("top after bad ones", h.count(0), 1);
        due("make 0 0", h.make(0, 0), 1);
        due("make 15 0", h.make(15, 0), 2);
        due("make 0 100", h.make(0, 100), 18);
        due("make 15 100", h.make(15, 100), 119);
    }

    // "(or to none: 0)"
    private static void promise3ToNone() {
        CountedHeap h = new CountedHeap(16, 8);
        due("none of no objects", h.refer(1, 0, 0), false);
        due("none of none", h.refer(0, 0, 0), false);
        h.make(1, 0);
        h.make(0, 2);
        due("to one", h.refer(1, 0, 3), true);
        h.root(0, 1);
        due("led to", h.near(1), 2);
        due("to none", h.refer(1, 0, 0), true);
        due("word of none", h.word(2), 0);
        due("to none again", h.refer(1, 0, 0), true);
        due("not led to", h.near(1), 1);
        due("not living", h.collect(), 2);
        due("none of a reference behind the last", h.refer(1, 1, 0), false);
    }

    // "False: no such objects, reference."
    private static void promise3NoSuchObjects() {
        CountedHeap h = new CountedHeap(16, 8);
        h.make(3, 2);
        h.make(1, 6);
        h.make(1, 0);
        int[] far = {LEAST, LEAST + 1, -17, GREATEST - 1, GREATEST};
        for (int object = -1; object <= 18; object++) {
            boolean header = object == 1 || object == 7 || object == 15;
            due("a reference of " + object, h.refer(object, 0, 7), header);
            due("a reference to " + object, h.refer(7, 0, object), header || object == 0);
        }
        for (int object : far) {
            due("a reference of " + object, h.refer(object, 0, 7), false);
            due("a reference to " + object, h.refer(7, 0, object), false);
        }
        due("words", h.words(), "0 560 7 0 0 0 0 1552 15 0 0 0 0 0 0 16 7");
        h.root(0, 15);
        h.refer(7, 0, 0);
        h.collect();
        due("one of old, not of now", h.refer(15, 0, 1), false);
        due("one to old, not to now", h.refer(9, 0, 15), false);
        due("one of now", h.refer(9, 0, 1), true);
    }

    private static void promise3NoSuchReference() {
        int[] counts = {0, 1, 2, 14, 15};
        int[] far = {LEAST, LEAST + 1, -100, -2, -1, 16, 99, 100, 115, GREATEST - 1, GREATEST};
        for (int references : counts) {
            CountedHeap h = new CountedHeap(60, 8);
            h.make(0, 3);
            due("make", h.make(references, 20), 5);
            h.make(15, 0);
            for (int k = 0; k <= 15; k++) {
                due("reference " + k + " of " + references, h.refer(5, k, 1), k < references);
                due("word of reference " + k + " of " + references, h.word(6 + k), k < references ? 1 : 0);
            }
            for (int k : far) {
                due("reference " + k + " of " + references, h.refer(5, k, 1), false);
            }
            due("words before", h.word(1) + h.word(2) + h.word(3) + h.word(4), 768);
            due("header", h.word(5), 5120 + 16 * references);
            due("header behind", h.word(26 + references), 240);
        }
    }

    // "False: none such."
    private static void promise4NoneSuch() {
        int[] counts = {0, 1, 2, 99, 100};
        int[] far = {LEAST, LEAST + 1, -100, -16, -2, -1, 101, 115, 256, GREATEST - 1, GREATEST};
        for (int words : counts) {
            CountedHeap h = new CountedHeap(200, 8);
            h.make(0, 3);
            due("make", h.make(2, words), 5);
            h.make(0, 30);
            for (int k = 0; k <= 100; k++) {
                due("plain word " + k + " of " + words, h.set(5, k, 1000 + k), k < words);
            }
            for (int k : far) {
                due("plain word " + k + " of " + words, h.set(5, k, 5), false);
            }
            due("words before", h.word(1) + h.word(2) + h.word(3) + h.word(4), 768);
            due("header and references", h.word(5) + h.word(6) + h.word(7), 256 * words + 32);
            for (int k = 0; k < words; k++) {
                due("word of plain word " + k, h.word(8 + k), 1000 + k);
            }
            due("header behind", h.word(8 + words), 7680);
            due("word behind", h.word(9 + words), 0);
        }
        CountedHeap h = full16(2);
        int[] none = {LEAST, -1, 0, 2, 8, 10, 16, 17, 18, GREATEST};
        for (int object : none) {
            due("a plain word of " + object, h.set(object, 0, 5), false);
        }
        due("the last word", h.set(9, 6, 5) && h.word(16) == 5, true);
        due("a plain word of an empty one", new CountedHeap(16, 8).set(1, 0, 5), false);
    }

    // "A root (0 .. 7). False: none such"
    private static void promise5Roots0To7() {
        CountedHeap h = full16(2);
        for (int k = 0; k <= 7; k++) {
            due("root " + k, h.root(k, 1 + 8 * (k % 2)), true);
        }
        for (int k : new int[] {LEAST, LEAST + 1, -8, -1, 8, 9, 15, 16, 256, GREATEST - 1, GREATEST}) {
            due("root " + k, h.root(k, 1), false);
            due("root " + k + " to none", h.root(k, 0), false);
        }
        for (int k = 0; k <= 7; k++) {
            due("root " + k + " is", h.rootOf(k), 1 + 8 * (k % 2));
        }
    }

    // "False: .. no such object (or 0)."
    private static void promise5NoSuchObjectOr0() {
        CountedHeap h = full16(2);
        for (int k = 0; k <= 7; k++) {
            for (int object = -1; object <= 18; object++) {
                due("root to " + object, h.root(k, object), object == 0 || object == 1 || object == 9);
            }
            for (int object : new int[] {LEAST, LEAST + 1, -9, GREATEST - 1, GREATEST}) {
                due("root to " + object, h.root(k, object), false);
            }
            due("root " + k, h.rootOf(k), 9);
            due("root to none", h.root(k, 0), true);
            due("root " + k + " of none", h.rootOf(k), 0);
        }
        CountedHeap empty = new CountedHeap(16, 8);
        due("root to the first word of an empty one", empty.root(0, 1), false);
        due("root to none of an empty one", empty.root(0, 0), true);
        CountedHeap last = new CountedHeap(16, 8);
        last.make(0, 14);
        last.make(0, 0);
        due("root to the last word", last.root(7, 16), true);
        last.collect();
        due("root of old", last.root(0, 16), false);
        due("root 7 of now", last.rootOf(7), 1);
    }

    // "how many words live": none
    private static void promise6NoneLives() {
        due("an empty one", new CountedHeap(16, 8).collect(), 0);
        CountedHeap h = full4000(8);
        h.root(0, 1);
        h.root(0, 0);
        due("a full one without roots", h.collect(), 0);
        due("its top", h.count(0), 1);
        due("its objects", h.count(1), 0);
        due("its last block's offset", h.offset(500), 0);
        due("room again", h.make(15, 100), 1);
        CountedHeap circle = full16(1);
        circle.collect();
        circle.make(1, 0);
        circle.make(1, 0);
        circle.refer(1, 0, 3);
        circle.refer(3, 0, 1);
        due("a circle that no root leads to", circle.collect(), 0);
    }

    // "how many words live": some
    private static void promise6SomeLive() {
        CountedHeap h = full4000(64);
        h.root(3, 3801);
        due("the last two", h.collect(), 200);
        due("top", h.count(0), 201);
        due("root", h.rootOf(3), 1);
        due("reference", h.word(2), 101);
        CountedHeap first = full16(2);
        first.root(0, 1);
        due("the first of two", first.collect(), 8);
        due("its root", first.rootOf(0), 1);
        CountedHeap last = new CountedHeap(16, 8);
        last.make(0, 14);
        last.make(0, 0);
        last.root(0, 16);
        due("the last word alone", last.collect(), 1);
        due("its root is the first word", last.rootOf(0), 1);
        due("where it went", last.moved(16), 1);
        due("an object is there", last.isObject(1) && !last.isObject(16), true);
    }

    // "how many words live": all
    private static void promise6AllLive() {
        CountedHeap h = full4000(8);
        h.root(7, 1);
        due("all of 4,000", h.collect(), 4000);
        due("top", h.count(0), 4001);
        due("objects", h.count(1), 40);
        due("reads", h.reads(), 4000);
        due("no room", h.make(0, 0), 0);
        due("all again", h.collect(), 4000);
        CountedHeap words = new CountedHeap(16, 64);
        for (int k = 0; k < 8; k++) {
            words.make(0, 0);
            words.make(0, 0);
            words.root(k, 2 * k + 1);
        }
        due("every other of 16 least objects", words.collect(), 8);
        for (int k = 0; k < 8; k++) {
            due("root " + k, words.rootOf(k), k + 1);
        }
        due("all of 8 least objects", words.collect(), 8);
        due("least objects", words.count(1), 8);
    }

    // "A word of the space, from 0 on. BAD ..: none such (0 .. n)."
    private static void promise7Words0ToN() {
        for (int n : new int[] {16, 17, 63, 64, 65, 3999, 4000}) {
            CountedHeap h = new CountedHeap(n, 8);
            due("word 0 of " + n, h.word(0), 0);
            due("word n of " + n, h.word(n), 0);
            for (int i : new int[] {LEAST, LEAST + 1, -n, -1, n + 1, n + 2, n + 64, GREATEST - 1, GREATEST}) {
                due("word " + i + " of " + n, h.word(i), BAD);
            }
        }
        CountedHeap full = full16(1);
        full.set(1, 14, 7);
        due("the last word of a full one", full.word(16), 7);
        due("behind the last of a full one", full.word(17), BAD);
    }

    // "BAD (which may be one, too)"
    private static void promise7BadMayBeAWord() {
        CountedHeap h = full16(1);
        due("a word is set to BAD", h.set(1, 14, OffsetHeap.BAD), true);
        due("it is BAD", h.word(16), BAD);
        h.root(0, 1);
        h.collect();
        due("it stays BAD", h.word(16), BAD);
        due("the one before it", h.word(15), 0);
    }

    // "Whether an object begins at an address."
    private static void promise8ObjectBeginsAtAddress() {
        CountedHeap h = new CountedHeap(16, 8);
        due("none in an empty one", h.isObject(1), false);
        h.make(1, 4);
        h.make(0, 0);
        h.make(0, 7);
        h.make(0, 0);
        h.set(1, 0, 16);
        h.set(1, 3, 256);
        for (int i = -2; i <= 20; i++) {
            due("isObject " + i, h.isObject(i), i == 1 || i == 7 || i == 8 || i == 16);
        }
        for (int i : new int[] {LEAST, LEAST + 1, LEAST + 16, -64, 65, 4000, 4001, GREATEST - 1, GREATEST}) {
            due("isObject " + i, h.isObject(i), false);
        }
        h.root(0, 16);
        h.root(1, 7);
        h.collect();
        for (int i = -2; i <= 20; i++) {
            due("isObject " + i + " after collecting", h.isObject(i), i == 1 || i == 2);
        }
        h.root(0, 0);
        h.root(1, 0);
        h.collect();
        due("none when none lives", h.isObject(1), false);
    }

    /** When all is full, the top is no word any more; with 63 or 64 words a row of longs may end there. */
    private static void promise8NoneBehindTheLastWord() {
        for (int n : new int[] {16, 31, 32, 62, 63, 64, 65, 127, 128, 4000}) {
            CountedHeap h = new CountedHeap(n, 64);
            for (int left = n; left > 0; left -= Math.min(left, 100)) {
                h.make(1, Math.min(left, 100) - 2);
            }
            due("top of a full one", h.count(0), n + 1);
            due("isObject of the top of " + n, h.isObject(n + 1), false);
            due("root to the top of " + n, h.root(0, n + 1), false);
            due("reference to the top of " + n, h.refer(1, 0, n + 1), false);
            due("reference of the top of " + n, h.refer(n + 1, 0, 1), false);
            due("set at the top of " + n, h.set(n + 1, 0, 1), false);
            due("sound of a full one of " + n, h.sound(), true);
            h.root(0, 1);
            due("living of " + n, h.collect(), Math.min(n, 100));
            due("isObject behind all, of " + n, h.isObject(n + 1), false);
            due("sound then", h.sound(), true);
        }
    }

    // "BAD: none such."
    private static void promise9NoSuchRoot() {
        CountedHeap empty = new CountedHeap(16, 8);
        CountedHeap full = full16(1);
        for (int k = 0; k <= 7; k++) {
            due("root " + k + " of an empty one", empty.rootOf(k), 0);
            full.root(k, 1);
            due("root " + k + " of a full one", full.rootOf(k), 1);
        }
        for (int k : new int[] {LEAST, LEAST + 1, -8, -1, 8, 9, 16, 256, GREATEST - 1, GREATEST}) {
            due("root " + k + " of an empty one", empty.rootOf(k), BAD);
            due("root " + k + " of a full one", full.rootOf(k), BAD);
        }
    }

    // "0 or 1 (0 before one). BAD: none such (0 .. n)."
    private static void promise10Bits0ToN() {
        for (int n : new int[] {16, 63, 64, 65, 101}) {
            CountedHeap h = new CountedHeap(n, 8);
            h.make(0, n > 100 ? 99 : n - 2);
            h.make(0, 0);
            h.root(0, h.count(0) - 1);
            for (int i = 0; i <= n; i++) {
                due("bit " + i + " before one", h.bit(i), 0);
            }
            h.collect();
            due("bit of the last word", h.bit(n), 1);
            due("bit of the one before it", h.bit(n - 1), 0);
            due("bit 0", h.bit(0), 0);
            for (int i : new int[] {LEAST, LEAST + 1, -64, -1, n + 1, n + 2, n + 64, GREATEST - 1, GREATEST}) {
                due("bit " + i + " of " + n, h.bit(i), BAD);
            }
        }
        CountedHeap full = full16(1);
        full.root(0, 1);
        full.collect();
        due("bits when all live", full.bits(), "0" + "1".repeat(16));
    }

    // "(0 before one). BAD: none such (those that have words 0 .. n)."
    private static void promise11BlocksWithWords0ToN() {
        for (int size = 8; size <= 64; size *= 2) {
            for (int n : new int[] {size * 3 - 1, size * 3, size * 3 + 1, 3999, 4000}) {
                CountedHeap h = new CountedHeap(n, size);
                h.make(0, 7);
                h.make(0, 7);
                h.root(0, 1);
                int last = (n - n % size) / size;
                due("offset 0 before one", h.offset(0), 0);
                due("offset " + last + " before one", h.offset(last), 0);
                h.collect();
                due("offset 0", h.offset(0), 0);
                due("offset 1 with blocks of " + size, h.offset(1), size == 8 ? 7 : 8);
                due("offset " + last + " of " + n, h.offset(last), 8);
                int[] far = {LEAST, LEAST + 1, -size, -1, last + 1, last + 2, n, GREATEST / size, GREATEST - 1, GREATEST};
                for (int b : far) {
                    due("offset " + b + " of " + n + " with blocks of " + size, h.offset(b), BAD);
                }
                due("count of blocks", h.count(4), last + 1);
            }
        }
    }

    // "0: its bit was not set; BAD: none such."
    private static void promise12MovedWords0ToN() {
        CountedHeap h = full16(2);
        h.root(0, 9);
        due("moved before one", h.moved(9), 0);
        h.collect();
        for (int i = 0; i <= 16; i++) {
            due("moved " + i, h.moved(i), i <= 8 ? 0 : i - 8);
        }
        for (int i : new int[] {LEAST, LEAST + 1, -16, -1, 17, 18, 64, GREATEST - 1, GREATEST}) {
            due("moved " + i, h.moved(i), BAD);
        }
        CountedHeap full = full4000(64);
        due("moved n before one", full.moved(4000), 0);
        due("moved n + 1 before one", full.moved(4001), BAD);
        full.root(0, 3901);
        full.collect();
        due("moved 3900", full.moved(3900), 0);
        due("moved 3901", full.moved(3901), 1);
        due("moved 3903, the last of its block", full.moved(3903), 3);
        due("moved 3904, the first of its block", full.moved(3904), 4);
        due("moved 4000", full.moved(4000), 100);
        due("moved 4001", full.moved(4001), BAD);
    }

    // "(0 before one)."
    private static void promise13ReadsBeforeOne() {
        CountedHeap h = full16(2);
        h.root(0, 1);
        h.near(100);
        h.sound();
        h.word(1);
        due("reads before one", h.reads(), 0);
        h.collect();
        due("reads of some", h.reads(), 8);
        h.word(1);
        h.near(100);
        due("reads of some, later", h.reads(), 8);
        h.make(0, 7);
        h.root(1, 9);
        h.collect();
        due("reads of all", h.reads(), 16);
        h.root(0, 0);
        h.root(1, 0);
        h.collect();
        due("reads of none", h.reads(), 0);
        CountedHeap empty = new CountedHeap(16, 8);
        empty.collect();
        due("reads of an empty one", empty.reads(), 0);
    }

    // "by ways of at most so many references (0 .. 100). BAD: another number."
    private static void promise14Steps0To100() {
        CountedHeap h = new CountedHeap(4000, 8);
        for (int made = 0; made < 103; made++) {
            h.make(1, 0);
            h.refer(2 * made - 1, 0, 2 * made + 1);
        }
        due("near without roots", h.near(100), 0);
        h.root(7, 1);
        for (int steps = 0; steps <= 100; steps++) {
            due("near " + steps, h.near(steps), steps + 1);
        }
        for (int steps : new int[] {LEAST, LEAST + 1, -101, -1, 101, 102, 4000, GREATEST - 1, GREATEST}) {
            due("near " + steps, h.near(steps), BAD);
        }
        due("what near counts and what lives", h.collect(), 206);
        CountedHeap empty = new CountedHeap(16, 8);
        due("near of an empty one", empty.near(0) + empty.near(100), 0);
        due("BAD of an empty one", empty.near(-1) + empty.near(101), 2 * BAD);
        CountedHeap full = full16(2);
        for (int k = 0; k < 8; k++) {
            full.root(k, 1 + 8 * (k % 2));
        }
        due("each object once", full.near(0) * 10 + full.near(100), 22);
    }

    // "THE THEOREM": its other side, the broken states, is in SoundTest.
    private static void promise15SoundAtTheEdges() {
        for (int block = 8; block <= 64; block *= 2) {
            for (int n : new int[] {16, 17, 31, 32, 33}) {
                CountedHeap h = new CountedHeap(n, block);
                soundAsTheSentenceSays("empty", h);
                h.collect();
                h.make(2, 3);
                h.make(0, 0);
                h.make(1, n - 9);
                soundAsTheSentenceSays("full", h);
                h.refer(1, 0, 7);
                h.refer(1, 1, 8);
                h.refer(8, 0, 1);
                h.set(8, 0, 9);
                h.root(0, 8);
                h.root(7, 7);
                h.collect();
                soundAsTheSentenceSays("all live", h);
                h.refer(1, 1, 0);
                h.refer(8, 0, 7);
                h.collect();
                soundAsTheSentenceSays("some live", h);
                h.root(0, 0);
                h.root(7, 0);
                h.collect();
                soundAsTheSentenceSays("none live", h);
            }
        }
    }

    /** The sentence of promise 15, word for word, from what the other calls answer. */
    private static void soundAsTheSentenceSays(String what, CountedHeap h) {
        int at = 1;
        int top = h.count(0);
        boolean holds = true;
        while (at < top) {
            holds &= h.isObject(at);
            int header = h.word(at);
            int references = header / 16 % 16;
            for (int k = 1; k <= references; k++) {
                int to = h.word(at + k);
                holds &= to == 0 || h.isObject(to);
            }
            at += 1 + references + header / 256;
        }
        holds &= at == top;
        for (int k = 0; k < 8; k++) {
            int to = h.rootOf(k);
            holds &= to == 0 || h.isObject(to);
        }
        int before = 0;
        String bits = what.equals("empty") || what.equals("full") ? "" : h.bits();
        for (int i = 0; i < bits.length(); i++) {
            if (bits.charAt(i) == '1') {
                holds &= h.moved(i) == 1 + before;
                before++;
            }
        }
        due("the sentence, " + what, holds, true);
        due("sound, " + what, h.sound(), true);
    }

    // "0 the top, 1 objects, 2 collectings, 3 the greatest word n, 4 blocks. BAD: another number."
    private static void promise16Counts0To4() {
        CountedHeap empty = new CountedHeap(16, 8);
        CountedHeap full = full4000(64);
        full.root(0, 1);
        full.collect();
        int[] ofEmpty = {1, 0, 0, 16, 3};
        int[] ofFull = {4001, 40, 1, 4000, 63};
        for (int what = 0; what <= 4; what++) {
            due("count " + what + " of an empty one", empty.count(what), ofEmpty[what]);
            due("count " + what + " of a full one", full.count(what), ofFull[what]);
        }
        for (int what : new int[] {LEAST, LEAST + 1, -2, -1, 5, 6, 256, GREATEST - 1, GREATEST}) {
            due("count " + what + " of an empty one", empty.count(what), BAD);
            due("count " + what + " of a full one", full.count(what), BAD);
        }
    }

    // LANGUAGE.md, rule 10: "all int and long arithmetic with Java's wrap-around"
    private static void rule10WrapAround() {
        int[] values = {LEAST, LEAST + 1, -257, -256, -1, 0, 1, 255, 256, 1 << 16, GREATEST - 1, GREATEST};
        CountedHeap h = new CountedHeap(16, 8);
        h.make(0, 2);
        h.make(0, 12);
        for (int k = 0; k < values.length; k++) {
            due("set to " + values[k], h.set(4, k, values[k]), true);
        }
        h.root(0, 4);
        h.collect();
        for (int k = 0; k < values.length; k++) {
            due("word that was set to " + values[k], h.word(2 + k), values[k]);
        }
        due("no more than the words live", h.collect(), 13);
        // Each sum of these wraps round to a word or a size that there is.
        due("references and words that wrap", h.make(LEAST, LEAST), BAD);
        due("references whose header wraps to 0", h.make(1 << 28, 0), BAD);
        due("words whose header wraps to 0", h.make(0, 1 << 24), BAD);
        due("words that wrap with references", h.make(15, GREATEST - 13), BAD);
        due("a word that wraps to 2", h.set(1, GREATEST, 5) || h.set(1, LEAST, 5), false);
        due("an object that wraps with k", h.set(GREATEST, LEAST + 1, 5) || h.set(LEAST, LEAST, 5), false);
        due("a reference that wraps", h.refer(GREATEST, LEAST + 1, 1) || h.refer(1, GREATEST, 1), false);
        due("the first words", h.word(1) + " " + h.word(2), "3072 " + LEAST);
    }
}
