import java.io.IOException;
import java.lang.reflect.Constructor;
import java.lang.reflect.Field;
import java.lang.reflect.Method;
import java.lang.reflect.Modifier;
import java.nio.charset.StandardCharsets;
import java.nio.file.Files;
import java.nio.file.Path;
import java.util.ArrayList;
import java.util.HashSet;
import java.util.List;
import java.util.Set;
import java.util.TreeSet;
import java.util.regex.Matcher;
import java.util.regex.Pattern;

/** The members that the class shows are those of the document, and its file keeps off what LANGUAGE.md bans. */
public final class FaceTest {
    private static final Path DOC = Path.of("../shared/DOC.md");
    private static final Path PROGRAM = Path.of("src/main/java/SpokenTree.java");
    private static final String[] BANNED = {"import", "package", "catch", "finally", "synchronized", "assert",
        "->", "::", "Exact", "equals(", "hashCode", "toString", "Object", "System.out", "System.in", "Random",
        "currentTimeMillis", "nanoTime", "Thread", "static {", "var ", "NaN", "Math.random"};

    private FaceTest() {
    }

    public static void main(String[] args) throws IOException {
        Check.same("1: members", shown().toString(), promised().toString());
        Check.yes("1: the class is public and final", Modifier.isPublic(SpokenTree.class.getModifiers())
                && Modifier.isFinal(SpokenTree.class.getModifiers()));
        classesInside();
        program();
        Check.end("FaceTest");
    }

    // The lines of the document's code block, as the class should declare them.
    private static Set<String> promised() throws IOException {
        String doc = Files.readString(DOC);
        String block = doc.substring(doc.indexOf("```java") + 7);
        Set<String> all = new TreeSet<>();
        for (String line : block.substring(0, block.indexOf("```")).split("\n")) {
            Matcher member = Pattern.compile("public (static final )?(\\w+ )?(\\w+)(\\(.*\\)| = .*)(.*);").matcher(line);
            if (member.find()) {
                all.add(line.trim().replaceAll(" = .*;", "").replaceAll("(int|boolean) \\w+(?=[,)])", "$1")
                        .replaceAll(";", ""));
            }
        }
        return all;
    }

    private static Set<String> shown() {
        Set<String> all = new TreeSet<>();
        Set<String> names = new HashSet<>();
        List<String> hidden = new ArrayList<>();
        for (Method method : SpokenTree.class.getDeclaredMethods()) {
            if (Modifier.isPrivate(method.getModifiers())) {
                hidden.add(method.getName());
            } else {
                names.add(method.getName());
                all.add(line(method.getReturnType().getSimpleName() + " " + method.getName(), method.getModifiers(),
                        method.getParameterTypes(), method.getExceptionTypes()));
            }
        }
        for (Constructor<?> made : SpokenTree.class.getDeclaredConstructors()) {
            all.add(line("SpokenTree", made.getModifiers(), made.getParameterTypes(), made.getExceptionTypes()));
        }
        for (Field field : SpokenTree.class.getDeclaredFields()) {
            if (!Modifier.isPrivate(field.getModifiers())) {
                all.add(Modifier.toString(field.getModifiers()) + " " + field.getType() + " " + field.getName());
            }
        }
        for (String name : hidden) {
            Check.no("private " + name + "() bears a public name", names.contains(name));
        }
        return all;
    }

    private static String line(String name, int modifiers, Class<?>[] takes, Class<?>[] throwing) {
        return Modifier.toString(modifiers) + " " + name + "(" + listed(takes) + ")"
                + (throwing.length == 0 ? "" : " throws " + listed(throwing));
    }

    private static String listed(Class<?>[] types) {
        List<String> names = new ArrayList<>();
        for (Class<?> type : types) {
            names.add(type.getSimpleName());
        }
        return String.join(", ", names);
    }

    private static void classesInside() {
        Class<?>[] inside = SpokenTree.class.getDeclaredClasses();
        Check.yes("at most twelve classes", inside.length < 12);
        for (Class<?> one : inside) {
            Check.yes(one + " is private and static",
                    Modifier.isPrivate(one.getModifiers()) && Modifier.isStatic(one.getModifiers()));
            int fields = 0;
            for (Field field : one.getDeclaredFields()) {
                fields += Modifier.isStatic(field.getModifiers()) ? 0 : 1;
            }
            Check.yes(one + " has at most twenty fields", fields <= 20);
        }
    }

    private static void program() throws IOException {
        String all = Files.readString(PROGRAM, StandardCharsets.UTF_8);
        Check.yes("plain signs alone", all.chars().allMatch(sign -> sign == '\n' || (sign >= 32 && sign < 127)));
        String code = all.replaceAll("/\\*(?s:.*?)\\*/", "").replaceAll("//.*", "");
        for (String word : BANNED) {
            Check.no("the program holds " + word, code.contains(word));
        }
        Matcher made = Pattern.compile("new (\\w+)").matcher(code);
        Set<String> kinds = new TreeSet<>();
        while (made.find()) {
            kinds.add(made.group(1));
        }
        kinds.removeAll(Set.of("IndexOutOfBoundsException", "IllegalArgumentException", "IllegalStateException"));
        Check.same("what is made", kinds.toString(), "[Grid, Queue, Ring, Scene, Tree, Words, char, int]");
    }
}
