import java.util.NoSuchElementException;

/** What the tests share: they extend this class, compare answers with what is due, and call end() at last. */
abstract class Checks {
    interface Call {
        Object answer();
    }

    static final Class<? extends RuntimeException> NO_SUCH = NoSuchElementException.class;
    static final Class<? extends RuntimeException> NO_INDEX = IndexOutOfBoundsException.class;
    static final Class<? extends RuntimeException> BAD_ARGUMENT = IllegalArgumentException.class;
    static final Class<? extends RuntimeException> BAD_STATE = IllegalStateException.class;
    static final Class<? extends RuntimeException> NOT_ALLOWED = UnsupportedOperationException.class;
    static final Class<? extends RuntimeException> NO_SHARE = ArithmeticException.class;

    private static int checks = 0;
    private static int wrong = 0;

    /** What a call comes to: its answer, or the exact class of what the program itself throws. */
    static Object outcome(Call call) {
        try {
            return call.answer();
        } catch (RuntimeException e) {
            StackTraceElement[] trace = e.getStackTrace();
            boolean own = trace.length > 0 && trace[0].getClassName().startsWith("Inglenook");
            return own ? e.getClass() : "not by the program's own throw: " + e;
        }
    }

    /** Floats and doubles are compared by their bits, as equals of Float and Double does. */
    static void due(Object want, Call call) {
        checks++;
        Object got = outcome(call);
        if (!want.equals(got)) {
            wrong++;
            System.out.println(place() + ": answered " + got + ", due is " + want);
        }
    }

    static void refuses(Class<? extends RuntimeException> want, Call call) {
        due(want, call);
    }

    private static String place() {
        for (StackTraceElement at : new Throwable().getStackTrace()) {
            if (at.getClassName().endsWith("Test")) {
                return at.getFileName() + ":" + at.getLineNumber() + " " + at.getMethodName();
            }
        }
        return "?";
    }

    static int checksMade() {
        return checks;
    }

    static void end() {
        System.out.println(checks + " checks, " + wrong + " wrong");
        if (wrong != 0 || checks == 0) {
            System.exit(1);
        }
    }

    /** A server on which users are registered, and no room is open. */
    static Inglenook server(int users) {
        Inglenook x = new Inglenook();
        for (int user = 0; user < users; user++) {
            x.register();
        }
        return x;
    }

    /** A server with room 0, of which all users are members in the order of their numbers. */
    static Inglenook roomOf(int users) {
        Inglenook x = server(users);
        x.open(0);
        for (int user = 1; user < users; user++) {
            x.join(user, 0);
        }
        return x;
    }

    static void write(Inglenook x, int user, String text) {
        for (int index = 0; index < text.length(); index++) {
            x.type(user, text.charAt(index));
        }
    }

    static int say(Inglenook x, int user, int room, String text) {
        write(x, user, text);
        return x.say(user, room);
    }

    static int reply(Inglenook x, int user, int message, String text) {
        write(x, user, text);
        return x.reply(user, message);
    }

    static int edit(Inglenook x, int user, int message, String text) {
        write(x, user, text);
        return x.edit(user, message);
    }

    static String draft(Inglenook x, int user) {
        StringBuilder text = new StringBuilder();
        for (int index = 0; index < x.draftLength(user); index++) {
            text.append(x.draftAt(user, index));
        }
        return text.toString();
    }

    static String text(Inglenook x, int message) {
        StringBuilder text = new StringBuilder();
        for (int index = 0; index < x.length(message); index++) {
            text.append(x.charAt(message, index));
        }
        return text.toString();
    }

    static String members(Inglenook x, int room) {
        StringBuilder list = new StringBuilder();
        for (int rank = 0; rank < x.members(room); rank++) {
            list.append(x.memberAt(room, rank));
        }
        return list.toString();
    }

    static String thread(Inglenook x, int message) {
        StringBuilder list = new StringBuilder();
        for (int rank = 0; rank < x.threadSize(message); rank++) {
            list.append(rank == 0 ? "" : " ").append(x.threadAt(message, rank));
        }
        return list.toString();
    }
}
