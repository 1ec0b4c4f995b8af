import java.io.IOException;
import java.lang.reflect.Constructor;
import java.lang.reflect.Field;
import java.lang.reflect.Method;
import java.lang.reflect.Modifier;
import java.nio.file.Files;
import java.nio.file.Path;
import java.util.List;
import java.util.Set;
import java.util.TreeSet;
import java.util.regex.Matcher;
import java.util.regex.Pattern;

/** The rules of LANGUAGE.md that can be looked at from outside: the face, the library, sizes. */
public final class LanguageTest {
    private static final Path SOURCE = Path.of("src/main/java/ContentRules.java");
    private static final Set<String> FACE = Set.of("feed", "end", "fault", "rules", "document", "rule", "occurrence",
        "counted", "any", "witness", "shown", "shortest", "words", "reads", "read", "taken", "times", "parts", "mended",
        "unlike", "thing", "wrong", "message", "recount", "reletter", "count");

    private static int wrong = 0;

    private static void must(String what, boolean is) {
        if (!is) {
            wrong++;
            System.out.println("outside LANGUAGE.md: " + what);
        }
    }

    private static void checkFace() {
        Set<String> names = new TreeSet<>();
        for (Method method : ContentRules.class.getDeclaredMethods()) {
            if (Modifier.isPublic(method.getModifiers())) {
                names.add(method.getName());
                must(method.getName() + " is static", !Modifier.isStatic(method.getModifiers()));
            } else {
                must(method.getName() + " isn't private", Modifier.isPrivate(method.getModifiers()));
                must(method.getName() + " bears a public name", !FACE.contains(method.getName()));
            }
        }
        must("the face is " + names, names.equals(new TreeSet<>(FACE)));
        for (Field field : ContentRules.class.getDeclaredFields()) {
            boolean isFace = field.getName().equals("NONE") || field.getName().equals("HIDDEN");
            must(field.getName() + "'s sight", isFace == Modifier.isPublic(field.getModifiers()));
            must(field.getName() + " is seen", isFace || Modifier.isPrivate(field.getModifiers()));
        }
        for (Constructor<?> constructor : ContentRules.class.getDeclaredConstructors()) {
            must("one public constructor", Modifier.isPublic(constructor.getModifiers()) && constructor.getParameterCount() == 0);
        }
        must("the class is final", Modifier.isFinal(ContentRules.class.getModifiers()));
        checkClasses();
    }

    private static void checkClasses() {
        Class<?>[] inside = ContentRules.class.getDeclaredClasses();
        must("some twelve classes", inside.length <= 12);
        for (Class<?> one : inside) {
            must(one + " isn't static", Modifier.isStatic(one.getModifiers()));
            must(one + " is public", !Modifier.isPublic(one.getModifiers()) && !Modifier.isProtected(one.getModifiers()));
            int fields = 0;
            for (Field field : one.getDeclaredFields()) {
                boolean isStatic = Modifier.isStatic(field.getModifiers());
                fields += isStatic ? 0 : 1;
                must(one + " " + field.getName() + " is static and not final",
                    !isStatic || Modifier.isFinal(field.getModifiers()));
            }
            must(one + " has " + fields + " fields", fields <= 20);
            for (Method method : one.getDeclaredMethods()) {
                must(one + " " + method.getName() + " bears a public name", !FACE.contains(method.getName()));
                must(one + " " + method.getName() + " takes too many", method.getParameterCount() <= 7);
            }
        }
    }

    private static void checkText(List<String> lines) {
        String[] never = {"->", "::", "catch", "try ", "finally", "synchronized", "assert ", "Object", "HashMap", "ArrayList",
            "Arrays.", "String.", "System.out", "Exact", "getMessage", "equals(", "hashCode", "toString", "static {", "double",
            "float", "Thread", "Random", "nanoTime", "currentTime", " var ", "instanceof", "@"};
        Pattern thrown = Pattern.compile("throw new NoSuchElementException\\(\"[a-zA-Z ]+\"\\);");
        for (String line : lines) {
            String code = line.replaceAll("/\\*.*|^ *\\*.*|//.*", "");
            for (String word : never) {
                must(word + " in " + line, !code.contains(word));
            }
            must(line, !code.contains("import ") || code.equals("import java.util.NoSuchElementException;"));
            must(line, !code.contains("throw ") || thrown.matcher(code).find());
            must("a sign that isn't plain: " + line, line.chars().allMatch(c -> c >= 32 && c < 127));
            must("joined texts: " + line, !code.matches(".*\" *\\+.*|.*\\+ *\".*"));
            must("a long line: " + line, line.length() <= 120);
        }
    }

    private static void checkLengths(List<String> lines) {
        Pattern head = Pattern.compile("^( {4}| {8})[a-zA-Z].*\\).* \\{$");
        int begin = -1;
        String indent = "";
        for (int i = 0; i < lines.size(); i++) {
            Matcher matcher = head.matcher(lines.get(i));
            if (matcher.find() && begin < 0) {
                begin = i;
                indent = matcher.group(1);
            } else if (begin >= 0 && lines.get(i).equals(indent + "}")) {
                must("a method of " + (i - begin) + " lines: " + lines.get(begin), i - begin <= 60);
                begin = -1;
            }
        }
    }

    public static void main(String[] args) throws IOException {
        List<String> lines = Files.readAllLines(SOURCE);
        checkFace();
        checkText(lines);
        checkLengths(lines);
        System.out.println(wrong == 0 ? lines.size() + " lines are within the rules" : wrong + " things are outside the rules");
        if (wrong != 0) {
            System.exit(1);
        }
    }
}
