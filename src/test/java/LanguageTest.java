import java.lang.reflect.Constructor;
import java.lang.reflect.Field;
import java.lang.reflect.Method;
import java.lang.reflect.Modifier;
import java.nio.file.Files;
import java.nio.file.Path;
import java.util.Set;
import java.util.TreeSet;
import java.util.regex.Pattern;

/** The face of the class, and those rules of LANGUAGE.md that can be read off the text. */
public final class LanguageTest {
    private static int wrong = 0;

    private static void fault(String text) {
        wrong++;
        System.out.println(text);
    }

    private static void checkFace() {
        Set<String> want = new TreeSet<>(Set.of(
            "int operator(int,int,int,int,int)", "int source(int)", "int promise(int,int)", "int end(int)",
            "int row(int,int,int,int)", "long result(int,int)", "int aside(int,int)", "int take()",
            "int bound(int,int)", "int of(int,int)", "int mark(int)", "long window(int,int,int,int)",
            "int pass(int,boolean)", "long passed(int,int)", "int count(int)", "LateRows()",
            "BAD", "NO", "FULL", "NONE"));
        Set<String> names = new TreeSet<>();
        Set<String> got = new TreeSet<>();
        for (Method m : LateRows.class.getDeclaredMethods()) {
            if (Modifier.isPrivate(m.getModifiers())) continue;
            if (!Modifier.isPublic(m.getModifiers()) || Modifier.isStatic(m.getModifiers())) fault("not of the face: " + m);
            names.add(m.getName());
            got.add(m.getReturnType() + " " + m.getName() + parameters(m.getParameterTypes()));
        }
        for (Constructor<?> c : LateRows.class.getDeclaredConstructors()) {
            got.add(c.getName() + parameters(c.getParameterTypes()));
        }
        for (Field f : LateRows.class.getDeclaredFields()) {
            if (!Modifier.isPrivate(f.getModifiers())) got.add(f.getName());
            checkStatic(f);
        }
        if (!got.equals(want)) fault("the face is " + got + ", due is " + want);
        checkMethods(LateRows.class, names);
        for (Class<?> inside : LateRows.class.getDeclaredClasses()) {
            if (!Modifier.isStatic(inside.getModifiers())) fault("not static: " + inside);
            checkMethods(inside, names);
            for (Field f : inside.getDeclaredFields()) checkStatic(f);
        }
        if (LateRows.class.getDeclaredClasses().length > 12) fault("more than twelve classes");
        if (!Modifier.isFinal(LateRows.class.getModifiers())) fault("the class is not final");
    }

    private static String parameters(Class<?>[] types) {
        StringBuilder text = new StringBuilder("(");
        for (Class<?> type : types) text.append(text.length() > 1 ? "," : "").append(type.getName());
        return text.append(")").toString();
    }

    private static void checkStatic(Field f) {
        if (Modifier.isStatic(f.getModifiers()) && !Modifier.isFinal(f.getModifiers())) fault("static state: " + f);
    }

    private static void checkMethods(Class<?> type, Set<String> face) {
        for (Method m : type.getDeclaredMethods()) {
            if (Modifier.isPrivate(m.getModifiers()) && face.contains(m.getName())) fault("a name of the face: " + m);
            if (m.getParameterCount() > 7) fault("more than seven parameters: " + m);
        }
    }

    private static void checkText(String text) {
        String code = text.replaceAll("(?s)/\\*.*?\\*/", " ").replaceAll("//[^\n]*", " ");
        for (String word : new String[] {"throw", "try", "catch", "synchronized", "assert", "import", "package",
            "protected", "instanceof", "double", "float", "String", "System", "native", "volatile"}) {
            if (Pattern.compile("\\b" + word + "\\b").matcher(code).find()) fault("the word " + word);
        }
        for (String sign : new String[] {"->", "::", "Exact", "@", "\"", ">>", "while (true)", "for (;;)"}) {
            if (code.contains(sign)) fault("the sign " + sign);
        }
        for (char c : text.toCharArray()) if (c > 126) fault("the character " + (int) c);
        checkLengths(code.split("\n", -1));
    }

    private static void checkLengths(String[] lines) {
        int begin = -1;
        for (int i = 0; i < lines.length; i++) {
            boolean head = lines[i].matches("( {4}| {8})[a-z].*\\) \\{") && !lines[i].matches(" +(if|for|while|switch) .*");
            if (head) begin = i;
            if (begin >= 0 && lines[i].matches("( {4}| {8})\\}")) {
                if (i - begin > 60) fault("more than sixty lines: " + lines[begin].trim());
            }
        }
    }

    public static void main(String[] args) throws Exception {
        checkFace();
        checkText(Files.readString(Path.of("src/main/java/LateRows.java")));
        System.out.println(wrong == 0 ? "the rules are kept" : wrong + " faults");
        if (wrong != 0) System.exit(1);
    }
}
