import java.io.IOException;
import java.lang.reflect.Field;
import java.lang.reflect.Method;
import java.lang.reflect.Modifier;
import java.nio.file.Files;
import java.nio.file.Path;
import java.util.ArrayList;
import java.util.List;
import java.util.regex.Matcher;
import java.util.regex.Pattern;

/** Those rules of LANGUAGE.md that can be seen from the text and the shape of the class. */
public final class LanguageTest {
    private static final Path SOURCE = Path.of("src/main/java/GuardFlow.java");
    private static final Due due = new Due();

    public static void main(String[] args) throws IOException {
        String code = withoutComments(Files.readString(SOURCE));
        words(code);
        calls(code);
        lengths(code);
        List<Class<?>> classes = new ArrayList<>(List.of(GuardFlow.class.getDeclaredClasses()));
        classes.add(GuardFlow.class);
        due.is("rule 11: classes", classes.size() <= 12, true);
        for (Class<?> one : classes) {
            shape(one);
        }
        due.end();
    }

    private static String withoutComments(String text) {
        return text.replaceAll("(?s)/\\*.*?\\*/", "").replaceAll("//[^\n]*", "");
    }

    private static void words(String code) {
        String[] words = {
            "package", "import", "throw", "throws", "try", "catch", "finally", "synchronized",
            "assert", "native", "volatile", "transient", "double", "float", "var", "Object",
            "Thread", "System", "Random", "equals", "hashCode", "toString",
        };
        for (String word : words) {
            boolean there = Pattern.compile("\\b" + word + "\\b").matcher(code).find();
            due.is("rules 3, 4, 6 and 13: the word " + word, there, false);
        }
        for (String sign : new String[] {"->", "::", "Exact(", "\"", "static {"}) {
            due.is("rules 2, 4 and 5: the sign " + sign, code.contains(sign), false);
        }
    }

    /** Of the library only what rule 4 lists, and of that only this is used. */
    private static void calls(String code) {
        Matcher m = Pattern.compile("\\b[A-Z][a-z]\\w*\\.\\w+\\(").matcher(code);
        while (m.find()) {
            due.is("rule 4: " + m.group(), m.group().equals("Long.bitCount("), true);
        }
    }

    /** A method begins with a line that opens a brace, and ends where that is closed. */
    private static void lengths(String code) {
        String[] lines = code.split("\n");
        for (int start = 0; start < lines.length; start++) {
            Matcher head = Pattern.compile("( +)[\\w\\[\\] ]+\\w\\(.*\\{").matcher(lines[start]);
            if (head.matches() && !lines[start].matches(" +(if|for|while|switch|return)\\b.*")) {
                int end = start;
                while (end < lines.length && !lines[end].equals(head.group(1) + "}")) {
                    end++;
                }
                due.is("rule 11: the length of" + lines[start], end - start <= 60, true);
            }
        }
    }

    private static void shape(Class<?> one) {
        due.is("rule 2: no class inside " + one + " but in the face",
                one == GuardFlow.class || one.getDeclaredClasses().length == 0, true);
        int fields = 0;
        for (Field f : one.getDeclaredFields()) {
            int modifiers = f.getModifiers();
            if (Modifier.isStatic(modifiers)) {
                due.is("rule 5: " + f, Modifier.isFinal(modifiers) && f.getType().isPrimitive(),
                        true);
            } else {
                fields++;
            }
        }
        due.is("rule 11: fields of " + one, fields <= 20, true);
        for (Method m : one.getDeclaredMethods()) {
            due.is("rule 11: parameters of " + m, m.getParameterCount() <= 7, true);
        }
    }
}
