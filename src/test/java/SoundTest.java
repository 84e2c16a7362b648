import java.lang.reflect.Field;

/**
 * Promise 15 on states that no calls lead to: each part of the theorem is broken from inside, and
 * sound must say so. No other test can tell sound from a method that always answers true.
 */
public final class SoundTest {
    private static int wrong = 0;

    private static int[] row(OffsetHeap h, String name) throws ReflectiveOperationException {
        return (int[]) field(name).get(h);
    }

    private static Field field(String name) throws ReflectiveOperationException {
        Field f = OffsetHeap.class.getDeclaredField(name);
        f.setAccessible(true);
        return f;
    }

    /** Living objects at 1 (2 references, 2 words), 6 (1 reference) and 8 (no reference, 9 words). */
    private static OffsetHeap collected() {
        OffsetHeap h = new OffsetHeap(40, 8);
        h.make(2, 2);
        h.make(1, 0);
        h.make(0, 9);
        h.refer(1, 0, 6);
        h.refer(6, 0, 8);
        h.root(3, 1);
        h.collect();
        return h;
    }

    private static void brokenWord(String what, String row, int i, int v) throws ReflectiveOperationException {
        OffsetHeap h = collected();
        due(what + ", before", h.sound(), true);
        row(h, row)[i] = v;
        due(what, h.sound(), false);
    }

    /** Words 1 .. 17 have their bits set, and offsets are 0, 7, 15, 17, 17, 17. */
    private static void brokenBit(String what, int i, boolean want) throws ReflectiveOperationException {
        OffsetHeap h = collected();
        Object bits = field("bits").get(h);
        Field row = bits.getClass().getDeclaredField("row");
        row.setAccessible(true);
        ((long[]) row.get(bits))[0] ^= 1L << i;
        due(what, h.sound(), want);
    }

    /** The last block has word n alone, so that no other word can tell its offset. */
    private static void brokenLastWord() throws ReflectiveOperationException {
        OffsetHeap h = new OffsetHeap(40, 8);
        h.make(0, 39);
        h.root(0, 1);
        h.collect();
        due("the last word, before", h.sound(), true);
        row(h, "offsets")[5] = 38;
        due("the last word's block's offset", h.sound(), false);
    }

    private static void brokenTop(int top) throws ReflectiveOperationException {
        OffsetHeap h = collected();
        field("top").setInt(h, top);
        due("top " + top, h.sound(), false);
    }

    private static void due(String what, boolean got, boolean want) {
        if (got != want) {
            wrong++;
            System.out.println(what + ": sound answered " + got + ", due is " + want);
        }
    }

    public static void main(String[] args) throws ReflectiveOperationException {
        brokenWord("an object too short", "space", 1, 256 * 1 + 16 * 2);
        brokenWord("an object too long", "space", 1, 256 * 3 + 16 * 2);
        brokenWord("the last object too long", "space", 8, 256 * 10);
        brokenWord("the last object too short", "space", 8, 256 * 8);
        brokenWord("a negative header", "space", 6, -256);
        brokenWord("a reference into an object", "space", 2, 7);
        brokenWord("a second reference behind the top", "space", 3, 18);
        brokenWord("a later object's reference", "space", 7, 9);
        brokenWord("a negative reference", "space", 7, -6);
        brokenWord("a root into an object", "roots", 0, 2);
        brokenWord("a root behind the top", "roots", 7, 18);
        brokenWord("a negative root", "roots", 7, -1);
        brokenWord("the first block's offset", "offsets", 0, 1);
        brokenWord("a middle block's offset", "offsets", 1, 8);
        brokenWord("the last living block's offset", "offsets", 2, 14);
        brokenBit("bit 0 too many", 0, false);
        brokenBit("bit 1 too few", 1, false);
        brokenBit("bit 7 too few", 7, false);
        brokenBit("bit 8 too few", 8, false);
        brokenBit("bit 15 too few", 15, false);
        brokenBit("bit 24 with an offset that fits", 24, true);
        brokenBit("bit 18, before which all fits", 18, true);
        brokenBit("bit 17 too few, behind which none is set", 17, true);
        brokenLastWord();
        brokenTop(17);
        brokenTop(19);
        System.out.println(wrong == 0 ? "sound tells each break" : wrong + " breaks are not told");
        if (wrong != 0) {
            System.exit(1);
        }
    }
}
