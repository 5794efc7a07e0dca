import java.lang.reflect.Constructor;
import java.lang.reflect.Field;
import java.lang.reflect.Method;
import java.lang.reflect.Modifier;
import java.util.ArrayList;
import java.util.Arrays;
import java.util.List;
import java.util.TreeSet;

/** The public face, and nothing beside it that is not private. */
final class FaceTest extends Checks {
    private static final String[] FACE = {
        "int register() IllegalStateException",
        "int beat(int) NoSuchElementException",
        "int pass(int) IllegalArgumentException",
        "int setRefill(int) IllegalArgumentException",
        "int open(int) NoSuchElementException IllegalStateException",
        "int join(int int) NoSuchElementException IllegalStateException",
        "int leave(int int) NoSuchElementException UnsupportedOperationException",
        "int type(int char) NoSuchElementException IllegalArgumentException IllegalStateException",
        "int insert(int int char) NoSuchElementException IndexOutOfBoundsException IllegalArgumentException"
            + " IllegalStateException",
        "char erase(int) NoSuchElementException IllegalStateException",
        "int reverse(int) NoSuchElementException",
        "int say(int int) NoSuchElementException UnsupportedOperationException IllegalStateException",
        "int reply(int int) NoSuchElementException UnsupportedOperationException IllegalStateException",
        "int edit(int int) NoSuchElementException UnsupportedOperationException IllegalStateException",
        "int remove(int int) NoSuchElementException UnsupportedOperationException",
        "int read(int int) NoSuchElementException UnsupportedOperationException",
        "int readTo(int int) NoSuchElementException UnsupportedOperationException",
        "int users()",
        "int rooms()",
        "int messages()",
        "int time()",
        "char presence(int) NoSuchElementException",
        "float tokens(int) NoSuchElementException",
        "int tokenBits(int) NoSuchElementException",
        "int draftLength(int) NoSuchElementException",
        "char draftAt(int int) NoSuchElementException IndexOutOfBoundsException",
        "int members(int) NoSuchElementException",
        "int memberAt(int int) NoSuchElementException IndexOutOfBoundsException",
        "int present(int) NoSuchElementException",
        "int owner(int) NoSuchElementException IllegalStateException",
        "int countOf(int) NoSuchElementException",
        "int messageAt(int int) NoSuchElementException IndexOutOfBoundsException",
        "int rankOf(int) NoSuchElementException",
        "int author(int) NoSuchElementException",
        "int roomOf(int) NoSuchElementException",
        "int length(int) NoSuchElementException",
        "char charAt(int int) NoSuchElementException IndexOutOfBoundsException",
        "int edits(int) NoSuchElementException",
        "boolean isRemoved(int) NoSuchElementException",
        "int parent(int) NoSuchElementException IllegalStateException",
        "int depth(int) NoSuchElementException",
        "int threadSize(int) NoSuchElementException",
        "int threadAt(int int) NoSuchElementException IndexOutOfBoundsException",
        "boolean mentions(int int) NoSuchElementException",
        "int unread(int int) NoSuchElementException UnsupportedOperationException",
        "int unreadByLog(int int) NoSuchElementException UnsupportedOperationException",
        "int unreadMentions(int int) NoSuchElementException UnsupportedOperationException",
        "int mentionsByLog(int int) NoSuchElementException UnsupportedOperationException",
        "int events()",
        "int eventsOf(char) IllegalArgumentException",
        "float seenShare(int) NoSuchElementException ArithmeticException",
        "double activity(int) NoSuchElementException",
        "long activityBits(int) NoSuchElementException",
    };

    public static void main(String[] args) {
        TreeSet<String> open = new TreeSet<>();
        TreeSet<String> hidden = new TreeSet<>();
        for (Method method : Inglenook.class.getDeclaredMethods()) {
            if (Modifier.isPublic(method.getModifiers()) && !Modifier.isStatic(method.getModifiers())) {
                open.add(line(method));
            } else {
                due(true, () -> Modifier.isPrivate(method.getModifiers()) || method.isSynthetic());
                hidden.add(method.getName());
            }
        }
        due(new TreeSet<>(Arrays.asList(FACE)), () -> open);
        for (String face : FACE) {
            due(false, () -> hidden.contains(face.substring(face.indexOf(' ') + 1, face.indexOf('('))));
        }
        for (Field field : Inglenook.class.getDeclaredFields()) {
            due(true, () -> Modifier.isPrivate(field.getModifiers()));
        }
        Constructor<?>[] made = Inglenook.class.getDeclaredConstructors();
        due(1, () -> made.length);
        due("public Inglenook()", () -> made[0].toString());
        due(true, () -> Modifier.isPublic(Inglenook.class.getModifiers()));
        due(true, () -> Modifier.isFinal(Inglenook.class.getModifiers()));
        end();
    }

    private static String line(Method method) {
        List<String> types = new ArrayList<>();
        for (Class<?> type : method.getParameterTypes()) {
            types.add(type.getSimpleName());
        }
        StringBuilder line = new StringBuilder(method.getReturnType().getSimpleName());
        line.append(' ').append(method.getName()).append('(').append(String.join(" ", types)).append(')');
        for (Class<?> thrown : method.getExceptionTypes()) {
            line.append(' ').append(thrown.getSimpleName());
        }
        return line.toString();
    }
}
