import java.io.IOException;
import java.lang.reflect.Constructor;
import java.lang.reflect.Field;
import java.lang.reflect.Method;
import java.lang.reflect.Modifier;
import java.nio.file.Files;
import java.nio.file.Path;
import java.util.Set;
import java.util.TreeSet;

/** What of LANGUAGE.md can be read off the source and the compiled classes. */
public final class LanguageTests {
    private static final String[] FACE = {"feed/5", "book/1", "fault/0", "where/0", "field/2", "log/2", "character/3", "sum/4", "norm/3", "relation/4",
        "part/4", "law/4", "parts/3", "let/2", "letField/1", "letPart/2", "whole/1", "count/1", "countOf/2", "curve/2", "sign/2", "both/2", "form/2",
        "power/3", "classSums/1", "classForms/1", "meets/3", "even/1", "echo/3", "noise/2", "lowest/1", "choose/1", "register/2", "take/2", "jacobi/3",
        "add/3", "times/2", "turn/2", "size/1", "undo/0", "redo/0", "image/0", "restore/1", "led/2", "told/1", "trouble/0"};
    private static final String[] REFUSED = {"->", "::", "finally", "synchronized", "assert ", "catch", "try ", "static {", "Object ", "double ", "float ",
        "System.", "Exact(", ".equals(", "hashCode", "toString", "Random", "Thread", "@", "package "};

    private LanguageTests() {
    }

    public static void main(String[] args) throws IOException {
        face();
        classes();
        source();
        Due.end();
    }

    private static void face() {
        Set<String> due = new TreeSet<>(Set.of(FACE));
        Set<String> got = new TreeSet<>();
        Set<String> names = new TreeSet<>();
        for (Method method : TurningSums.class.getDeclaredMethods()) {
            if (Modifier.isPublic(method.getModifiers())) {
                got.add(method.getName() + "/" + method.getParameterCount());
                names.add(method.getName());
            } else {
                Due.is("not private: " + method, Modifier.isPrivate(method.getModifiers()), true);
            }
        }
        Due.is("the face is " + got, got.equals(due), true);
        for (Class<?> inside : TurningSums.class.getDeclaredClasses()) {
            for (Method method : inside.getDeclaredMethods()) {
                Due.is("a name of the face inside: " + method, names.contains(method.getName()), false);
                Due.is("public inside: " + method, Modifier.isPublic(method.getModifiers()), false);
            }
        }
        for (Method method : TurningSums.class.getDeclaredMethods()) {
            Due.is("a private name of the face: " + method, Modifier.isPrivate(method.getModifiers()) && names.contains(method.getName()), false);
        }
        for (Constructor<?> made : TurningSums.class.getDeclaredConstructors()) {
            Due.is("constructor", made.getParameterCount() == 0 && Modifier.isPublic(made.getModifiers()), true);
        }
        for (Field field : TurningSums.class.getDeclaredFields()) {
            Due.is("field " + field, Modifier.isPrivate(field.getModifiers()) || field.getName().equals("NONE"), true);
        }
    }

    private static void classes() {
        int many = 1;
        for (Class<?> inside : TurningSums.class.getDeclaredClasses()) {
            many++;
            Due.is("static: " + inside, Modifier.isStatic(inside.getModifiers()), true);
            int fields = 0;
            for (Field field : inside.getDeclaredFields()) {
                boolean isStatic = Modifier.isStatic(field.getModifiers());
                fields += isStatic ? 0 : 1;
                Due.is("static and not final: " + field, isStatic && !Modifier.isFinal(field.getModifiers()), false);
            }
            Due.is("fields of " + inside, fields <= 20, true);
            for (Method method : inside.getDeclaredMethods()) {
                Due.is("parameters of " + method, method.getParameterCount() <= 7, true);
            }
        }
        Due.is("classes", many <= 12, true);
    }

    private static void source() throws IOException {
        Path path = Path.of(System.getProperty("source", "src/main/java/TurningSums.java"));
        int throwing = 0;
        int start = 0;
        int line = 0;
        for (String text : Files.readAllLines(path)) {
            line++;
            for (String refused : REFUSED) {
                Due.is("line " + line + " has " + refused + ": " + text, !isComment(text) && text.contains(refused), false);
            }
            throwing += text.contains("throw new NoSuchElementException(") ? 1 : 0;
            Due.is("line " + line + " throws another: " + text, text.contains("throw new ") && !text.contains("throw new NoSuchElementException("), false);
            if (text.matches(" {4,8}[a-zA-Z].*\\) (throws \\w+ )?\\{")) {
                start = line;
            }
            if (text.matches(" {4,8}\\}") && start > 0) {
                Due.is("lines of the method that ends at " + line, line - start < 60, true);
                start = 0;
            }
        }
        Due.is("throws", throwing, 1);
    }

    private static boolean isComment(String text) {
        return text.strip().startsWith("//") || text.strip().startsWith("/**");
    }
}
