import java.lang.reflect.Constructor;
import java.lang.reflect.Field;
import java.lang.reflect.Method;
import java.lang.reflect.Modifier;
import java.nio.file.Files;
import java.nio.file.Path;
import java.util.Arrays;
import java.util.Collections;
import java.util.List;
import java.util.TreeSet;
import java.util.regex.Matcher;
import java.util.regex.Pattern;

/** The document's face, and those rules of LANGUAGE.md that can be seen from outside or in the text of the class. */
public final class LanguageTest {
    private static final List<String> FACE = List.of("int feed(long,int)", "int build()", "int fault()",
        "int row(int,int,long,int)", "int mark(int,int,long)", "int end(int,int)", "int idle(int,int,boolean)",
        "int turn(int)", "int hold(int,long)", "int release(int,boolean,int)", "long watermark(int)",
        "boolean isIdle(int)", "long promise(int,int)", "int part(int,int)", "int kept(int,int)", "long out(int,int)",
        "long late(int,int)", "int told(int)", "int print()", "int letter(int)");

    private static String faceOf(Method method) {
        StringBuilder s = new StringBuilder(method.getReturnType() + " " + method.getName() + "(");
        for (Class<?> type : method.getParameterTypes()) {
            s.append(s.charAt(s.length() - 1) == '(' ? "" : ",").append(type);
        }
        return s.append(")").toString();
    }

    private static void face() {
        TreeSet<String> names = new TreeSet<>();
        TreeSet<String> open = new TreeSet<>();
        for (Method method : WatermarkJoin.class.getDeclaredMethods()) {
            if (Modifier.isPrivate(method.getModifiers())) {
                continue;
            }
            open.add(faceOf(method));
            names.add(method.getName());
            Check.due(method.getName() + " is public", 1, Modifier.isPublic(method.getModifiers()) ? 1 : 0);
        }
        Check.due("the face", new TreeSet<>(FACE).toString(), open.toString());
        for (Class<?> own : WatermarkJoin.class.getDeclaredClasses()) {
            Check.due(own.getName() + " is static", 1, Modifier.isStatic(own.getModifiers()) ? 1 : 0);
            for (Method method : own.getDeclaredMethods()) {
                Check.due(method + " bears a name of the face", 0, names.contains(method.getName()) ? 1 : 0);
            }
        }
        Check.due("classes, some twelve", 1, WatermarkJoin.class.getDeclaredClasses().length < 12 ? 1 : 0);
        TreeSet<String> constants = new TreeSet<>();
        for (Field field : WatermarkJoin.class.getDeclaredFields()) {
            if (!Modifier.isPrivate(field.getModifiers())) {
                constants.add(field.getName());
            }
        }
        Check.due("the constants", "[BAD, END, FULL, GONE, PAST, START, STOPPED]", constants.toString());
        Constructor<?>[] constructors = WatermarkJoin.class.getDeclaredConstructors();
        Check.due("constructors", 1, constructors.length);
        Check.due("it is public", 1, Modifier.isPublic(constructors[0].getModifiers()) ? 1 : 0);
        Check.due("the class is final", 1, Modifier.isFinal(WatermarkJoin.class.getModifiers()) ? 1 : 0);
    }

    private static void text() throws java.io.IOException {
        String text = Files.readString(Path.of("src/main/java/WatermarkJoin.java"));
        String code = text.replaceAll("(?s)/\\*.*?\\*/", "").replaceAll("//.*", "").replaceAll("\"[^\"]*\"", "\"\"");
        for (String word : List.of("import", "package", "catch", "try", "finally", "synchronized", "assert", "protected",
            "instanceof", "String", "Random", "System", "Thread", "double", "float")) {
            Check.due("the word " + word, 0, Pattern.compile("\\b" + word + "\\b").matcher(code).find() ? 1 : 0);
        }
        Check.due("lambdas and method references", 0, code.contains("->") || code.contains("::") ? 1 : 0);
        Matcher thrown = Pattern.compile("throw new (\\w+)").matcher(code);
        while (thrown.find()) {
            Check.due(thrown.group(), 1,
                List.of("IllegalStateException", "IndexOutOfBoundsException").contains(thrown.group(1)) ? 1 : 0);
        }
        methodLengths(Arrays.asList(code.split("\n")));
    }

    private static void methodLengths(List<String> lines) {
        for (int i = 0; i < lines.size(); i++) {
            String line = lines.get(i);
            if (!line.matches(" {4,8}[\\w ]+[\\[\\] \\w]*\\(.*\\{") || line.matches(" *(if|for|while|switch|return) .*")) {
                continue;
            }
            String close = line.replaceAll("\\S.*", "") + "}";
            int length = Math.max(1, Collections.indexOfSubList(lines.subList(i, lines.size()), List.of(close)));
            Check.due("lines of " + line.strip(), 1, length <= 60 ? 1 : 0);
            Check.due("parameters of " + line.strip(), 1, line.split(",").length <= 7 ? 1 : 0);
        }
    }

    public static void main(String[] args) throws java.io.IOException {
        face();
        text();
        Check.finish();
    }
}
