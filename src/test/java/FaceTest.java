import java.lang.reflect.Constructor;
import java.lang.reflect.Field;
import java.lang.reflect.Method;
import java.lang.reflect.Modifier;
import java.util.Arrays;
import java.util.HashSet;
import java.util.Set;
import java.util.TreeSet;

/** The public face: all that the document names, typed as there, and no other visible member. */
public final class FaceTest {
    private static final String[] FACE = {
        "public static final int OffsetHeap.BAD",
        "public OffsetHeap(int,int)",
        "public int OffsetHeap.make(int,int)",
        "public boolean OffsetHeap.refer(int,int,int)",
        "public boolean OffsetHeap.set(int,int,int)",
        "public boolean OffsetHeap.root(int,int)",
        "public int OffsetHeap.collect()",
        "public int OffsetHeap.word(int)",
        "public boolean OffsetHeap.isObject(int)",
        "public int OffsetHeap.rootOf(int)",
        "public int OffsetHeap.bit(int)",
        "public int OffsetHeap.offset(int)",
        "public int OffsetHeap.moved(int)",
        "public int OffsetHeap.reads()",
        "public int OffsetHeap.near(int)",
        "public boolean OffsetHeap.sound()",
        "public int OffsetHeap.count(int)",
    };

    public static void main(String[] args) {
        Set<String> want = new TreeSet<>(Arrays.asList(FACE));
        Set<String> got = visibleMembers();
        boolean right = want.equals(got) && OffsetHeap.BAD == -1
            && Modifier.toString(OffsetHeap.class.getModifiers()).equals("public final")
            && privateNamesAreOwn() && insideIsStatic();
        if (!right) {
            System.out.println("the face is " + got + ", due is " + want);
            System.exit(1);
        }
        System.out.println("the face is as due");
    }

    private static Set<String> visibleMembers() {
        Set<String> got = new TreeSet<>();
        for (Field f : OffsetHeap.class.getDeclaredFields()) {
            if (!Modifier.isPrivate(f.getModifiers())) {
                got.add(f.toString());
            }
        }
        for (Constructor<?> c : OffsetHeap.class.getDeclaredConstructors()) {
            if (!Modifier.isPrivate(c.getModifiers())) {
                got.add(c.toString());
            }
        }
        for (Method m : OffsetHeap.class.getDeclaredMethods()) {
            if (!Modifier.isPrivate(m.getModifiers())) {
                got.add(m.toString());
            }
        }
        return got;
    }

    private static boolean privateNamesAreOwn() {
        Set<String> names = new HashSet<>();
        for (Method m : OffsetHeap.class.getDeclaredMethods()) {
            if (Modifier.isPublic(m.getModifiers())) {
                names.add(m.getName());
            }
        }
        for (Method m : OffsetHeap.class.getDeclaredMethods()) {
            if (Modifier.isPrivate(m.getModifiers()) && names.contains(m.getName())) {
                System.out.println("a private method bears the name " + m.getName());
                return false;
            }
        }
        return true;
    }

    private static boolean insideIsStatic() {
        for (Class<?> c : OffsetHeap.class.getDeclaredClasses()) {
            if (!Modifier.isStatic(c.getModifiers()) || Modifier.isPublic(c.getModifiers())) {
                System.out.println("not static, or public: " + c);
                return false;
            }
        }
        return true;
    }
}
