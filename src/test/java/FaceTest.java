import java.io.IOException;
import java.lang.reflect.Constructor;
import java.lang.reflect.Field;
import java.lang.reflect.Method;
import java.lang.reflect.Modifier;
import java.nio.file.Files;
import java.nio.file.Path;
import java.util.ArrayList;
import java.util.List;
import java.util.Set;
import java.util.TreeSet;
import java.util.regex.Matcher;
import java.util.regex.Pattern;

/** The public face as the document writes it, and the rules of LANGUAGE.md that the text shows. */
public final class FaceTest extends Check {
    private static final Path DOCUMENT = Path.of("../shared/DOC.md");
    private static final Path SOURCE = Path.of("src/main/java/PillowBarge.java");

    private static final String[] FORBIDDEN = {
        "->", "::", "\\bfinally\\b", "\\bsynchronized\\b", "\\bassert\\b", "\\bcatch\\b", "\\bstatic\\s*\\{",
        "\\bequals\\b", "\\bhashCode\\b", "\\btoString\\b", "\\bpackage\\b", "\\bThread\\b", "\\bRandom\\b",
        "\\bcurrentTimeMillis\\b", "\\bnanoTime\\b", "Exact\\(", "\\bprotected\\b",
    };

    public static void main(String[] args) throws IOException {
        face();
        hiddenMembers();
        nestedClasses();
        wordsOfTheSource();
        end("FaceTest");
    }

    private static void face() throws IOException {
        Set<String> due = new TreeSet<>();
        Matcher face = Pattern.compile("public final class PillowBarge \\{(.*?)\\n\\}", Pattern.DOTALL)
                .matcher(Files.readString(DOCUMENT));
        due("the document has a face", face.find(), true);
        for (String line : face.group(1).split("\n")) {
            if (!line.isBlank()) {
                due.add(line.trim().replaceAll(" [a-z]\\w*(?=[,)])", ""));
            }
        }
        Set<String> got = new TreeSet<>();
        for (Constructor<?> constructor : PillowBarge.class.getConstructors()) {
            got.add("public PillowBarge(" + names(constructor.getParameterTypes()) + ");");
        }
        for (Method method : PillowBarge.class.getDeclaredMethods()) {
            if (Modifier.isPublic(method.getModifiers())) {
                got.add(describe(method));
            }
        }
        due("the face", got, due);
        int modifiers = PillowBarge.class.getModifiers();
        due("the class", Modifier.toString(modifiers), "public final");
    }

    private static String describe(Method method) {
        String exceptions = names(method.getExceptionTypes());
        return Modifier.toString(method.getModifiers()) + " " + method.getReturnType().getSimpleName() + " "
                + method.getName() + "(" + names(method.getParameterTypes()) + ")"
                + (exceptions.isEmpty() ? "" : " throws " + exceptions) + ";";
    }

    private static String names(Class<?>[] types) {
        List<String> names = new ArrayList<>();
        for (Class<?> type : types) {
            names.add(type.getSimpleName());
        }
        return String.join(", ", names);
    }

    private static Set<String> openNames() {
        Set<String> open = new TreeSet<>();
        for (Method method : PillowBarge.class.getDeclaredMethods()) {
            if (Modifier.isPublic(method.getModifiers())) {
                open.add(method.getName());
            }
        }
        return open;
    }

    private static void hiddenMembers() {
        Set<String> open = openNames();
        for (Method method : PillowBarge.class.getDeclaredMethods()) {
            if (!Modifier.isPublic(method.getModifiers())) {
                due("rule 1, private " + method.getName(), Modifier.isPrivate(method.getModifiers()), true);
                due("rule 1, the name of " + method.getName(), open.contains(method.getName()), false);
            }
        }
        for (Field field : PillowBarge.class.getDeclaredFields()) {
            due("rule 1, private " + field.getName(), Modifier.isPrivate(field.getModifiers()), true);
            dueFinalIfStatic(field);
        }
    }

    private static void nestedClasses() {
        Set<String> open = openNames();
        for (Class<?> nested : PillowBarge.class.getDeclaredClasses()) {
            due("rule 1, static " + nested.getName(), Modifier.isStatic(nested.getModifiers()), true);
            due("rule 1, hidden " + nested.getName(), Modifier.isPublic(nested.getModifiers()), false);
            for (Field field : nested.getDeclaredFields()) {
                dueFinalIfStatic(field);
            }
            for (Method method : nested.getDeclaredMethods()) {
                due("rule 1, the name of " + method.getName(), open.contains(method.getName()), false);
            }
        }
        due("rule 11, some twelve classes", PillowBarge.class.getDeclaredClasses().length <= 12, true);
    }

    private static void dueFinalIfStatic(Field field) {
        int modifiers = field.getModifiers();
        due("rule 5, " + field.getName(), !Modifier.isStatic(modifiers) || Modifier.isFinal(modifiers), true);
    }

    private static void wordsOfTheSource() throws IOException {
        String source = Files.readString(SOURCE).replaceAll("//[^\n]*", "").replaceAll("(?s)/\\*.*?\\*/", "");
        for (String word : FORBIDDEN) {
            due("the source has " + word, Pattern.compile(word).matcher(source).find(), false);
        }
        Matcher imports = Pattern.compile("import ([^;]*);").matcher(source);
        while (imports.find()) {
            due("rule 4, import", imports.group(1), "java.util.NoSuchElementException");
        }
    }
}
