import java.io.IOException;
import java.io.InputStream;
import java.lang.reflect.Constructor;
import java.lang.reflect.Field;
import java.lang.reflect.Method;
import java.lang.reflect.Modifier;
import java.nio.file.Files;
import java.nio.file.Path;
import java.util.ArrayList;
import java.util.List;
import java.util.Set;
import java.util.TreeSet;
import java.util.regex.Matcher;
import java.util.regex.Pattern;

/** Those rules of ../shared/LANGUAGE.md that can be read off the source and the compiled classes. */
final class LanguageTest extends Checks {
    private static final String LIST = "java/util/ArrayList.";
    private static final Set<String> LIBRARY = Set.of(
        "java/lang/Object.<init> ()V",
        LIST + "<init> ()V", LIST + "add (Ljava/lang/Object;)Z", LIST + "get (I)Ljava/lang/Object;",
        LIST + "remove (I)Ljava/lang/Object;", LIST + "size ()I", LIST + "isEmpty ()Z",
        "java/lang/String.indexOf (I)I",
        "java/lang/IllegalStateException.<init> (Ljava/lang/String;)V",
        "java/lang/IllegalArgumentException.<init> (Ljava/lang/String;)V",
        "java/lang/IndexOutOfBoundsException.<init> (Ljava/lang/String;)V",
        "java/lang/ArithmeticException.<init> (Ljava/lang/String;)V",
        "java/lang/UnsupportedOperationException.<init> (Ljava/lang/String;)V",
        "java/util/NoSuchElementException.<init> (Ljava/lang/String;)V");
    private static final Set<String> CONSTANT_TYPES = Set.of("int", "long", "boolean", "char", "String");
    private static final Pattern WORD_RULED_OUT = Pattern.compile(
        "\\b(package|catch|finally|synchronized|assert|strictfp|native|volatile|transient|protected|Object|var)\\b");
    private static final Pattern METHOD_HEAD = Pattern.compile("( +)(?:\\w[\\w<> ]* )?\\w+\\(.*");

    public static void main(String[] args) throws IOException {
        List<Class<?>> classes = new ArrayList<>(List.of(Inglenook.class));
        classes.addAll(List.of(Inglenook.class.getDeclaredClasses()));
        due(true, () -> classes.size() <= 12);
        for (Class<?> one : classes) {
            classKeepsTheRules(one);
        }
        libraryIsListed(classes);
        sourceKeepsTheRules(Files.readString(Path.of("src/main/java/Inglenook.java")));
        end();
    }

    private static void classKeepsTheRules(Class<?> one) {
        boolean inside = one != Inglenook.class;
        due(inside, () -> Modifier.isStatic(one.getModifiers()) && !Modifier.isPublic(one.getModifiers()));
        due(0, () -> inside ? one.getDeclaredClasses().length : 0);
        int own = 0;
        for (Field field : one.getDeclaredFields()) {
            if (Modifier.isStatic(field.getModifiers())) {
                due(true, () -> Modifier.isFinal(field.getModifiers()));
                due(true, () -> CONSTANT_TYPES.contains(field.getType().getSimpleName()));
            } else {
                own++;
            }
        }
        int fields = own;
        due(true, () -> fields <= 20);
        for (Method method : one.getDeclaredMethods()) {
            due(true, () -> method.getParameterCount() <= 7);
            due(false, () -> Modifier.isSynchronized(method.getModifiers()));
            due(false, () -> Set.of("equals", "hashCode", "toString", "finalize").contains(method.getName()));
        }
        for (Constructor<?> made : one.getDeclaredConstructors()) {
            due(true, () -> made.getParameterCount() <= 7);
        }
    }

    private static void libraryIsListed(List<Class<?>> classes) throws IOException {
        TreeSet<String> foreign = new TreeSet<>();
        for (Class<?> one : classes) {
            try (InputStream bytes = LanguageTest.class.getResourceAsStream(one.getName() + ".class")) {
                ClassFile file = new ClassFile(bytes);
                due(false, () -> file.dynamic);
                due(false, () -> file.members.isEmpty());
                for (String member : file.members) {
                    if (!member.startsWith("Inglenook") && !LIBRARY.contains(member)) {
                        foreign.add(member);
                    }
                }
            }
        }
        due("[]", () -> foreign.toString());
    }

    private static void sourceKeepsTheRules(String source) {
        due(true, () -> source.chars().allMatch(sign -> sign == '\n' || sign >= 32 && sign < 127));
        String code = source.replaceAll("(?s)/\\*.*?\\*/", "").replaceAll("(?m)//.*$", "")
            .replaceAll("\"[^\"\n]*\"", "\"\"");
        Matcher word = WORD_RULED_OUT.matcher(code);
        due("none", () -> word.find() ? word.group() : "none");
        due(false, () -> code.matches("(?s).*\\bstatic \\{.*"));
        due(List.of(), () -> longMethods(source));
    }

    /** The heads of what has more than sixty lines from its head to the brace in the same column. */
    private static List<String> longMethods(String source) {
        List<String> found = new ArrayList<>();
        String[] lines = source.split("\n");
        int methods = 0;
        for (int start = 0; start < lines.length; start++) {
            Matcher head = METHOD_HEAD.matcher(lines[start]);
            if (!head.matches() || head.group(1).length() > 8 || !lines[start].matches(".*[{)]")) {
                continue;
            }
            methods++;
            int end = start;
            while (end < lines.length && !lines[end].equals(head.group(1) + "}")) {
                end++;
            }
            if (end - start > 60) {
                found.add(lines[start]);
            }
        }
        boolean some = methods > 80;
        due(true, () -> some);
        return found;
    }
}
