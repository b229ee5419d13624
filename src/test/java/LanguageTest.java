import java.io.IOException;
import java.lang.reflect.Executable;
import java.lang.reflect.Field;
import java.lang.reflect.Modifier;
import java.nio.file.Files;
import java.nio.file.Path;
import java.util.ArrayList;
import java.util.Arrays;
import java.util.List;
import java.util.Set;
import java.util.TreeSet;
import java.util.regex.Matcher;
import java.util.regex.Pattern;

/** Those rules of LANGUAGE.md that show in the text of the class or in its shape. */
public final class LanguageTest {
    private static final Checks CHECKS = new Checks();
    private static final Pattern METHOD_HEAD =
        Pattern.compile("^( {4}| {8})(?!if |for |while |switch )[A-Za-z].*\\(.*\\) \\{$");

    public static void main(String[] args) throws IOException {
        String text = withoutComments(Files.readString(Path.of("src/main/java/PackFrames.java")));
        libraryIsOfRule4(text);
        noWordIsForbidden(text);
        objectsAreMadeInConstructors(text);
        methodsAreShort(text);
        shapeIsOfRules5And11();
        CHECKS.end();
    }

    private static String withoutComments(String source) {
        return source.replaceAll("(?s)/\\*.*?\\*/", "").replaceAll("//[^\n]*", "");
    }

    private static void libraryIsOfRule4(String text) {
        CHECKS.due("rule 4: imports", found("\\bimport [^;]*", text).toString(), "[import java.util.Arrays]");
        // A letter in front would make it the end of some other name.
        CHECKS.due("rule 4: library calls", found("(?<![A-Za-z.])(Arrays|Integer|Long|Math|System)\\.[a-zA-Z]+",
            text).toString(),
            "[Arrays.fill, Integer.bitCount, Integer.numberOfLeadingZeros, Math.max, Math.min]");
    }

    // Some of these the rules allow under conditions that a look at the text cannot tell; the class needs none.
    private static void noWordIsForbidden(String text) {
        for (String word : new String[] {"package", "throw", "throws", "try", "catch", "finally", "synchronized",
            "assert", "volatile", "transient", "native", "instanceof", "equals", "hashCode", "toString", "getClass",
            "protected", "Object", "double", "float", "String"}) {
            CHECKS.due("rules 1, 3, 6: " + word, found("\\b" + word + "\\b", text).toString(), "[]");
        }
        CHECKS.due("rule 2: lambdas and method references", found("->|::", text).toString(), "[]");
        CHECKS.due("rule 5: static blocks", found("\\bstatic \\{", text).toString(), "[]");
    }

    private static void objectsAreMadeInConstructors(String text) {
        String inside = "";
        for (String line : text.split("\n")) {
            if (METHOD_HEAD.matcher(line).matches()) {
                inside = line.trim();
            } else if (line.equals("    }") || line.equals("        }")) {
                inside = "";
            } else if (line.contains("new ") && !inside.isEmpty()) {
                // A constructor's name is a class's, and only these begin with a capital.
                CHECKS.due("made in a constructor: " + line.trim() + " in " + inside,
                    inside.matches("(public )?[A-Z][A-Za-z]*\\(.*"), true);
            }
        }
    }

    private static void methodsAreShort(String text) {
        String[] lines = text.split("\n");
        for (int i = 0; i < lines.length; i++) {
            Matcher head = METHOD_HEAD.matcher(lines[i]);
            if (head.matches()) {
                int length = 1;
                while (!lines[i + length].equals(head.group(1) + "}")) {
                    length++;
                }
                CHECKS.due("rule 11: sixty lines or fewer, " + lines[i].trim(), length <= 60, true);
            }
        }
    }

    private static void shapeIsOfRules5And11() {
        List<Class<?>> classes = new ArrayList<>(Arrays.asList(PackFrames.class.getDeclaredClasses()));
        classes.add(PackFrames.class);
        CHECKS.due("rule 11: twelve classes or fewer", classes.size() <= 12, true);
        for (Class<?> c : classes) {
            CHECKS.due("rule 11: classes within " + c, c == PackFrames.class || c.getDeclaredClasses().length == 0,
                true);
            int fields = 0;
            for (Field f : c.getDeclaredFields()) {
                if (!Modifier.isStatic(f.getModifiers())) {
                    fields++;
                } else {
                    CHECKS.due("rule 5: final, " + f, Modifier.isFinal(f.getModifiers()), true);
                    CHECKS.due("rule 5: int or int[], " + f,
                        f.getType() == int.class || f.getType() == int[].class, true);
                }
            }
            CHECKS.due("rule 11: twenty fields or fewer, " + c, fields <= 20, true);
            parametersAreSevenOrFewer(c.getDeclaredMethods());
            parametersAreSevenOrFewer(c.getDeclaredConstructors());
        }
    }

    private static void parametersAreSevenOrFewer(Executable[] all) {
        for (Executable e : all) {
            CHECKS.due("rule 11: seven parameters or fewer, " + e, e.getParameterCount() <= 7, true);
        }
    }

    private static Set<String> found(String pattern, String text) {
        Set<String> all = new TreeSet<>();
        Matcher m = Pattern.compile(pattern).matcher(text);
        while (m.find()) {
            all.add(m.group());
        }
        return all;
    }
}
