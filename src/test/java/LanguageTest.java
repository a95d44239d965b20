import com.sun.management.ThreadMXBean;
import java.lang.management.ManagementFactory;
import java.lang.reflect.Array;
import java.lang.reflect.Constructor;
import java.lang.reflect.Field;
import java.lang.reflect.Method;
import java.lang.reflect.Modifier;
import java.nio.file.Files;
import java.nio.file.Path;
import java.util.ArrayDeque;
import java.util.Collections;
import java.util.Deque;
import java.util.IdentityHashMap;
import java.util.Set;
import java.util.TreeSet;
import java.util.regex.Pattern;

/** The face of the class, and those rules of LANGUAGE.md that can be read off the text. */
public final class LanguageTest {
    private static int wrong = 0;

    private static void fault(String text) {
        wrong++;
        System.out.println(text);
    }

    private static void checkFace() {
        Set<String> want = new TreeSet<>(Set.of(
            "int operator(int,int,int,int,int)", "int source(int)", "int promise(int,int)", "int end(int)",
            "int row(int,int,int,int)", "long result(int,int)", "int aside(int,int)", "int take()",
            "int bound(int,int)", "int of(int,int)", "int mark(int)", "long window(int,int,int,int)",
            "int pass(int,boolean)", "long passed(int,int)", "int count(int)", "LateRows()",
            "BAD", "NO", "FULL", "NONE"));
        Set<String> names = new TreeSet<>();
        Set<String> got = new TreeSet<>();
        for (Method m : LateRows.class.getDeclaredMethods()) {
            if (Modifier.isPrivate(m.getModifiers())) continue;
            if (!Modifier.isPublic(m.getModifiers()) || Modifier.isStatic(m.getModifiers())) fault("not of the face: " + m);
            names.add(m.getName());
            got.add(m.getReturnType() + " " + m.getName() + parameters(m.getParameterTypes()));
        }
        for (Constructor<?> c : LateRows.class.getDeclaredConstructors()) {
            got.add(c.getName() + parameters(c.getParameterTypes()));
        }
        for (Field f : LateRows.class.getDeclaredFields()) {
            if (!Modifier.isPrivate(f.getModifiers())) got.add(f.getName());
            checkStatic(f);
        }
        if (!got.equals(want)) fault("the face is " + got + ", due is " + want);
        checkMethods(LateRows.class, names);
        for (Class<?> inside : LateRows.class.getDeclaredClasses()) {
            if (!Modifier.isStatic(inside.getModifiers())) fault("not static: " + inside);
            checkMethods(inside, names);
            for (Field f : inside.getDeclaredFields()) checkStatic(f);
        }
        if (LateRows.class.getDeclaredClasses().length > 12) fault("more than twelve classes");
        if (!Modifier.isFinal(LateRows.class.getModifiers())) fault("the class is not final");
    }

    private static String parameters(Class<?>[] types) {
        StringBuilder text = new StringBuilder("(");
        for (Class<?> type : types) text.append(text.length() > 1 ? "," : "").append(type.getName());
        return text.append(")").toString();
    }

    private static void checkStatic(Field f) {
        if (Modifier.isStatic(f.getModifiers()) && !Modifier.isFinal(f.getModifiers())) fault("static state: " + f);
    }

    private static void checkMethods(Class<?> type, Set<String> face) {
        for (Method m : type.getDeclaredMethods()) {
            if (Modifier.isPrivate(m.getModifiers()) && face.contains(m.getName())) fault("a name of the face: " + m);
            if (m.getParameterCount() > 7) fault("more than seven parameters: " + m);
        }
    }

    private static void checkText(String text, String code) {
        for (String word : new String[] {"throw", "try", "catch", "synchronized", "assert", "import", "package",
            "protected", "instanceof", "double", "float", "String", "System", "native", "volatile"}) {
            if (Pattern.compile("\\b" + word + "\\b").matcher(code).find()) fault("the word " + word);
        }
        for (String sign : new String[] {"->", "::", "Exact", "@", "\"", ">>", "while (true)", "for (;;)"}) {
            if (code.contains(sign)) fault("the sign " + sign);
        }
        for (char c : text.toCharArray()) if (c > 126) fault("the character " + (int) c);
        checkLengths(code.split("\n", -1));
    }

    private static void checkLengths(String[] lines) {
        int begin = -1;
        for (int i = 0; i < lines.length; i++) {
            boolean head = lines[i].matches("( {4}| {8})[a-z].*\\) \\{") && !lines[i].matches(" +(if|for|while|switch) .*");
            if (head) begin = i;
            if (begin >= 0 && lines[i].matches("( {4}| {8})\\}")) {
                if (i - begin > 60) fault("more than sixty lines: " + lines[begin].trim());
            }
        }
    }

    /** Every array is made for a final field, so by a constructor, and none elsewhere. */
    private static void checkTables(String code) {
        int fields = finalArrays(LateRows.class);
        for (Class<?> inside : LateRows.class.getDeclaredClasses()) fields += finalArrays(inside);
        long made = Pattern.compile("\\bnew\\s+\\w+\\s*\\[|\\bclone\\b|\\bcopyOf").matcher(code).results().count();
        if (made != fields) fault(made + " arrays are made in the text, for " + fields + " final fields");
    }

    private static int finalArrays(Class<?> type) {
        int arrays = 0;
        for (Field f : type.getDeclaredFields()) {
            if (!f.getType().isArray()) continue;
            arrays++;
            if (!Modifier.isFinal(f.getModifiers())) fault("a table that a call may make: " + f);
        }
        return arrays;
    }

    /** How many objects and arrays (0) with how many fields and elements (1) hang on this object. */
    private static long[] roomOf(Object root) throws IllegalAccessException {
        Set<Object> seen = Collections.newSetFromMap(new IdentityHashMap<>());
        Deque<Object> open = new ArrayDeque<>();
        open.add(root);
        long cells = 0;
        while (!open.isEmpty()) {
            Object next = open.remove();
            if (!seen.add(next)) continue;
            if (next.getClass().isArray()) {
                cells += Array.getLength(next);
                if (next instanceof Object[] row) for (Object o : row) if (o != null) open.add(o);
                continue;
            }
            for (Field f : next.getClass().getDeclaredFields()) {
                if (Modifier.isStatic(f.getModifiers())) continue;
                cells++;
                f.setAccessible(true);
                Object held = f.getType().isPrimitive() ? null : f.get(next);
                if (held != null) open.add(held);
            }
        }
        return new long[] {seen.size(), cells};
    }

    private static void dueRoom(String call, LateRows x, long[] before, int objects, int cells)
            throws IllegalAccessException {
        long[] room = roomOf(x);
        if (room[0] - before[0] > objects || room[1] - before[1] > cells) {
            fault(call + " made " + (room[0] - before[0]) + " objects, " + (room[1] - before[1]) + " cells");
        }
        before[0] = room[0];
        before[1] = room[1];
    }

    private static void checkRoom() throws IllegalAccessException {
        LateRows x = new LateRows();
        long[] room = roomOf(x);
        if (room[0] > 1000 || room[1] > 30000) fault("a new object: " + room[0] + " objects, " + room[1] + " cells");
        x.operator(1, 8, 1, 0, 0);
        dueRoom("operator", x, room, 1, 10);
        x.source(0);
        dueRoom("source", x, room, 1, 10);
        x.row(0, 0, 3, 7);
        dueRoom("row", x, room, 1, 10);
        x.pass(0, true);
        dueRoom("the first pass", x, room, 0, 0);
        x.promise(0, 100);
        dueRoom("promise", x, room, 0, 0);
        x.row(0, 0, 3, 7);
        dueRoom("a row aside", x, room, 1, 10);
        x.pass(0, true);
        x.passed(0, 0);
        x.take();
        x.end(0);
        dueRoom("pass, passed, take, end", x, room, 0, 0);
    }

    /** What is made and let go again counts as well; the machine's own count of bytes shows it. */
    private static void checkBytes() {
        ThreadMXBean machine = (ThreadMXBean) ManagementFactory.getThreadMXBean();
        if (!machine.isThreadAllocatedMemorySupported()) return;
        long most = 0;
        for (int n = 0; n < 3; n++) {
            LateRows x = new LateRows();
            long before = machine.getCurrentThreadAllocatedBytes();
            callAll(x);
            most = machine.getCurrentThreadAllocatedBytes() - before;
        }
        // 300 rows, an operator and a source of less than 64 bytes each
        if (most > 302 * 64) fault("512 calls made " + most + " bytes");
    }

    private static void callAll(LateRows x) {
        x.operator(1, 8, 1, 5, 0);
        x.source(0);
        for (int n = 0; n < 300; n++) x.row(0, n % 3, n % 7, n);
        for (int n = 0; n < 150; n++) x.pass(0, n % 2 == 0);
        for (int n = 0; n < 20; n++) x.promise(0, n);
        for (int n = 0; n < 9; n++) x.count(n);
        for (int n = 0; n < 7; n++) x.passed(n, n);
        for (int n = 0; n < 7; n++) x.window(0, 0, n, n);
        for (int n = 0; n < 9; n++) x.result(n, n);
        x.take();
        x.bound(3, 1);
        x.end(0);
    }

    public static void main(String[] args) throws Exception {
        checkFace();
        String text = Files.readString(Path.of("src/main/java/LateRows.java"));
        String code = text.replaceAll("(?s)/\\*.*?\\*/", " ").replaceAll("//[^\n]*", " ");
        checkText(text, code);
        checkTables(code);
        checkRoom();
        checkBytes();
        System.out.println(wrong == 0 ? "the rules are kept" : wrong + " faults");
        if (wrong != 0) System.exit(1);
    }
}
