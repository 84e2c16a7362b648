import com.sun.management.ThreadMXBean;
import java.io.IOException;
import java.lang.management.ManagementFactory;
import java.lang.reflect.Array;
import java.lang.reflect.Constructor;
import java.lang.reflect.Executable;
import java.lang.reflect.Field;
import java.lang.reflect.Modifier;
import java.nio.file.Files;
import java.nio.file.Path;
import java.util.ArrayList;
import java.util.Arrays;
import java.util.List;
import java.util.Set;
import java.util.regex.Matcher;
import java.util.regex.Pattern;

/** Rules of LANGUAGE.md that can be seen in the source, in the class or in what a run makes. */
public final class LanguageTest {
    private static final Set<String> IMPORTS = Set.of("java.util.Arrays", "java.util.ArrayList", "java.util.List",
        "java.util.Iterator", "java.util.NoSuchElementException");
    private static final String[] NOT_IN_CODE = {
        "2: ->", "2: ::", "6: \\bfinally\\b", "6: \\bsynchronized\\b", "6: \\bassert\\b", "6: \\btry\\s*\\(",
        "6: \\bgetMessage\\b", "6: \\bextends\\s+\\w*Exception\\b", "6: \\bhashCode\\b", "4: \\bjava\\.(?!util\\.)",
        "4: \\w+Exact\\b", "4: \\bSystem\\.(?!arraycopy\\b)", "4: \\bArrays\\.(?!copyOf\\b|copyOfRange\\b|fill\\b)",
        "5: \\bstatic\\s*\\{", "13: \\bThread\\b", "13: \\bRandom\\b", "13: \\brandom\\b",
    };
    private static final Set<Class<?>> CONSTANTS = Set.of(int.class, long.class, boolean.class, char.class,
        String.class, int[].class, long[].class, char[].class, byte[].class);
    private static final int CALLS = 512;
    private static final int ROOM_OBJECTS = 600_000;
    private static final int ROOM_ELEMENTS = 7_300_000;
    private static int wrong = 0;

    private static void hold(String rule, boolean holds) {
        if (!holds) {
            wrong++;
            System.out.println("rule " + rule);
        }
    }

    public static void main(String[] args) throws IOException, ReflectiveOperationException {
        String source = Files.readString(Path.of("src/main/java/OffsetHeap.java"));
        String code = withoutComments(source);
        importsAreListed(code);
        nothingForbidden(code);
        methodsAreShort(source);
        classesAreSmall();
        constructorsFitTheRoom();
        callsMakeNothing();
        System.out.println(wrong == 0 ? "the rules hold" : wrong + " rules are broken");
        if (wrong != 0) {
            System.exit(1);
        }
    }

    private static String withoutComments(String source) {
        return source.replaceAll("(?s)/\\*.*?\\*/", "").replaceAll("//.*", "");
    }

    private static void importsAreListed(String code) {
        hold("1: there is a package line", !Pattern.compile("(?m)^\\s*package\\b").matcher(code).find());
        Matcher m = Pattern.compile("(?m)^import (.*);").matcher(code);
        while (m.find()) {
            hold("4: import " + m.group(1), IMPORTS.contains(m.group(1)));
        }
    }

    private static void nothingForbidden(String code) {
        for (String rule : NOT_IN_CODE) {
            String pattern = rule.substring(rule.indexOf(' ') + 1);
            hold(rule + " stands in the code", !Pattern.compile(pattern).matcher(code).find());
        }
    }

    /** A method's lines reach from its head to the brace that stands as deep as the head. */
    private static void methodsAreShort(String source) {
        String[] lines = source.split("\n");
        for (int i = 0; i < lines.length; i++) {
            Matcher head = Pattern.compile("( {4}| {8})\\w[^=]*\\(.*\\) \\{").matcher(lines[i]);
            if (!head.matches() || lines[i].trim().matches("(if|for|while|switch)\\b.*")) {
                continue;
            }
            int end = i;
            while (end < lines.length && !lines[end].equals(head.group(1) + "}")) {
                end++;
            }
            hold("11: a method longer than 60 lines:" + lines[i], end - i < 60);
        }
    }

    private static List<Class<?>> classes() {
        List<Class<?>> all = new ArrayList<>();
        all.add(OffsetHeap.class);
        all.addAll(Arrays.asList(OffsetHeap.class.getDeclaredClasses()));
        return all;
    }

    private static void classesAreSmall() {
        hold("11: more than twelve classes", classes().size() <= 12);
        for (Class<?> c : classes()) {
            int own = 0;
            for (Field f : c.getDeclaredFields()) {
                if (Modifier.isStatic(f.getModifiers())) {
                    boolean constant = Modifier.isFinal(f.getModifiers()) && CONSTANTS.contains(f.getType());
                    hold("5: no constant: " + f, constant);
                } else {
                    own++;
                }
            }
            hold("11: more than twenty fields in " + c, own <= 20);
            List<Executable> all = new ArrayList<>(Arrays.<Executable>asList(c.getDeclaredMethods()));
            all.addAll(Arrays.<Constructor<?>>asList(c.getDeclaredConstructors()));
            for (Executable e : all) {
                hold("11: more than seven parameters: " + e, e.getParameterCount() <= 7);
                hold("6: a checked exception: " + e, e.getExceptionTypes().length == 0);
                hold("6: synchronized or native: " + e, !Modifier.isSynchronized(e.getModifiers())
                    && !Modifier.isNative(e.getModifiers()));
            }
        }
    }

    /** Even a run that only made new objects of the greatest size would find room. */
    private static void constructorsFitTheRoom() throws ReflectiveOperationException {
        int[] made = made(new OffsetHeap(4000, 8));
        hold("12: a new object makes " + made[0] + " objects and arrays", made[0] * CALLS <= ROOM_OBJECTS);
        hold("12: a new object makes " + made[1] + " elements", made[1] * CALLS <= ROOM_ELEMENTS);
    }

    /** How many objects and arrays, and how many fields and elements, an object holds. */
    private static int[] made(Object o) throws ReflectiveOperationException {
        if (o == null || !(o.getClass().isArray() || classes().contains(o.getClass()))) {
            return new int[] {0, 0};
        }
        if (o.getClass().isArray()) {
            return new int[] {1, Array.getLength(o)};
        }
        int[] sum = {1, 0};
        for (Field f : o.getClass().getDeclaredFields()) {
            if (!Modifier.isStatic(f.getModifiers())) {
                f.setAccessible(true);
                int[] part = f.getType().isPrimitive() ? new int[] {0, 0} : made(f.get(o));
                sum[0] += part[0];
                sum[1] += part[1] + 1;
            }
        }
        return sum;
    }

    /** Calls on a full space of many objects; the first turns load what the JVM loads once. */
    private static void callsMakeNothing() {
        ThreadMXBean thread = (ThreadMXBean) ManagementFactory.getThreadMXBean();
        long before = 0;
        for (int turn = 0; turn < 20; turn++) {
            OffsetHeap h = new OffsetHeap(4000, 8);
            before = thread.getCurrentThreadAllocatedBytes();
            everyCall(h);
        }
        long bytes = thread.getCurrentThreadAllocatedBytes() - before;
        // An object has 16 bytes at least; less than one a call leaves the room to the constructors.
        hold("12: calls make " + bytes + " bytes", bytes < 16L * CALLS);
    }

    /** 249 pairs of make and refer, and each of the other calls once: 511 calls. */
    private static void everyCall(OffsetHeap h) {
        int before = 0;
        for (int i = 0; i < 249; i++) {
            int made = h.make(2, 13);
            h.refer(made, 0, before);
            before = made;
        }
        h.set(before, 3, 9);
        h.root(0, before);
        h.near(100);
        h.collect();
        h.word(1);
        h.isObject(1);
        h.rootOf(0);
        h.bit(1);
        h.offset(1);
        h.moved(1);
        h.reads();
        h.sound();
        h.count(0);
    }
}
