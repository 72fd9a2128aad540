import java.lang.reflect.Constructor;
import java.lang.reflect.Field;
import java.lang.reflect.Method;
import java.lang.reflect.Modifier;
import java.nio.file.Files;
import java.nio.file.Path;
import java.util.Arrays;
import java.util.Collections;
import java.util.List;
import java.util.TreeSet;
import java.util.regex.Matcher;
import java.util.regex.Pattern;

/** The document's face, and those rules of LANGUAGE.md that can be seen from outside or in the text of the class. */
public final class LanguageTest {
    private static final List<String> FACE = List.of("int feed(long,int)", "int build()", "int fault()",
        "int row(int,int,long,int)", "int mark(int,int,long)", "int end(int,int)", "int idle(int,int,boolean)",
        "int turn(int)", "int hold(int,long)", "int release(int,boolean,int)", "long watermark(int)",
        "boolean isIdle(int)", "long promise(int,int)", "int part(int,int)", "int kept(int,int)", "long out(int,int)",
        "long late(int,int)", "int told(int)", "int print()", "int letter(int)");

    private static String faceOf(Method method) {
        StringBuilder s = new StringBuilder(method.getReturnType() + " " + method.getName() + "(");
        for (Class<?> type : method.getParameterTypes()) {
            s.append(s.charAt(s.length() - 1) == '(' ? "" : ",").append(type);
        }
        return s.append(")").toString();
    }

    private static void face() {
        TreeSet<String> names = new TreeSet<>();
        TreeSet<String> open = new TreeSet<>();
        for (Method method : WatermarkJoin.class.getDeclaredMethods()) {
            if (Modifier.isPrivate(method.getModifiers()) || method.isSynthetic()) {
                continue;
            }
            open.add(faceOf(method));
            names.add(method.getName());
            Check.due(method.getName() + " is public", 1, Modifier.isPublic(method.getModifiers()) ? 1 : 0);
        }
        Check.due("the face", new TreeSet<>(FACE).toString(), open.toString());
        for (Class<?> own : WatermarkJoin.class.getDeclaredClasses()) {
            Check.due(own.getName() + " is static", 1, Modifier.isStatic(own.getModifiers()) ? 1 : 0);
            privateNames(own, names);
        }
        privateNames(WatermarkJoin.class, names);
        Check.due("classes, some twelve", true, WatermarkJoin.class.getDeclaredClasses().length <= 14);
        TreeSet<String> constants = new TreeSet<>();
        for (Field field : WatermarkJoin.class.getDeclaredFields()) {
            if (!Modifier.isPrivate(field.getModifiers())) {
                constants.add(field.getName());
            }
        }
        Check.due("the constants", "[BAD, END, FULL, GONE, PAST, START, STOPPED]", constants.toString());
        Constructor<?>[] constructors = WatermarkJoin.class.getDeclaredConstructors();
        Check.due("constructors", 1, constructors.length);
        Check.due("it is public", 1, Modifier.isPublic(constructors[0].getModifiers()) ? 1 : 0);
        Check.due("the class is final", 1, Modifier.isFinal(WatermarkJoin.class.getModifiers()) ? 1 : 0);
    }

    private static void privateNames(Class<?> own, TreeSet<String> face) {
        for (Method method : own.getDeclaredMethods()) {
            if (Modifier.isPrivate(method.getModifiers())) {
                Check.due(method + " bears a name of the face", false, face.contains(method.getName()));
            }
        }
    }

    private static void constants() {
        for (Class<?> own : WatermarkJoin.class.getDeclaredClasses()) {
            for (Field field : own.getDeclaredFields()) {
                int modifiers = field.getModifiers();
                Check.due(field + " is static and not final", false, Modifier.isStatic(modifiers) && !Modifier.isFinal(modifiers));
            }
        }
        long[] due = {-1, -2, -3, -4, -5, -9_000_000_000_000_000_000L, 9_000_000_000_000_000_000L};
        long[] got = {WatermarkJoin.BAD, WatermarkJoin.GONE, WatermarkJoin.STOPPED, WatermarkJoin.FULL, WatermarkJoin.PAST,
            WatermarkJoin.START, WatermarkJoin.END};
        for (int i = 0; i < due.length; i++) {
            Check.due("constant " + i, due[i], got[i]);
        }
    }

    private static void text() throws java.io.IOException {
        String text = Files.readString(Path.of("src/main/java/WatermarkJoin.java"));
        String code = text.replaceAll("(?s)/\\*.*?\\*/", "").replaceAll("//.*", "").replaceAll("\"[^\"]*\"", "\"\"");
        for (String word : List.of("package", "finally", "synchronized", "assert", "protected", "Random", "Thread", "Throwable",
            "Exception", "Error", "ArrayIndexOutOfBoundsException", "NullPointerException", "ClassCastException",
            "NegativeArraySizeException", "ArrayStoreException", "getMessage", "hashCode", "volatile", "native")) {
            Check.due("the word " + word, false, Pattern.compile("\\b" + word + "\\b").matcher(code).find());
        }
        Check.due("method references", false, code.contains("::"));
        Check.due("functions that end in Exact", false, Pattern.compile("Exact\\(").matcher(code).find());
        Check.due("static initialiser blocks", false, Pattern.compile("\\bstatic\\s*\\{").matcher(code).find());
        Matcher imported = Pattern.compile("(?m)^\\s*import (.*);").matcher(code);
        while (imported.find()) {
            Check.due(imported.group(), true, List.of("java.util.ArrayList", "java.util.List", "java.util.Arrays",
                "java.util.Iterator", "java.util.NoSuchElementException").contains(imported.group(1)));
        }
        Matcher thrown = Pattern.compile("throw new (\\w+)").matcher(code);
        while (thrown.find()) {
            Check.due(thrown.group(), true, List.of("IllegalStateException", "IllegalArgumentException",
                "IndexOutOfBoundsException", "ArithmeticException", "UnsupportedOperationException", "NoSuchElementException",
                "RuntimeException").contains(thrown.group(1)));
        }
        methodLengths(Arrays.asList(code.split("\n")));
    }

    private static void methodLengths(List<String> lines) {
        for (int i = 0; i < lines.size(); i++) {
            String line = lines.get(i);
            if (!line.matches(" {4,8}[\\w ]+[\\[\\] \\w]*\\(.*\\{") || line.matches(" *(if|for|while|switch|return) .*")) {
                continue;
            }
            String close = line.replaceAll("\\S.*", "") + "}";
            int length = Math.max(1, Collections.indexOfSubList(lines.subList(i, lines.size()), List.of(close)));
            Check.due("lines of " + line.strip() + ", some sixty", true, length <= 66);
            Check.due("parameters of " + line.strip(), true, line.split(",").length <= 7);
        }
    }

    public static void main(String[] args) throws java.io.IOException {
        face();
        constants();
        text();
        Check.finish();
    }
}
