import java.lang.reflect.InvocationTargetException;
import java.lang.reflect.Method;
import java.util.ArrayList;
import java.util.List;
import java.util.Random;

/** Runs of at most 512 calls, drawn from fixed seeds, each call put to an Inglenook and to the Model. */
final class RandomRunsTest extends Checks {
    private static final int RUNS = 1500;
    private static final int CALLS = 512;

    /** A call's name; what its arguments are (see argument); how often it is drawn in each kind of run. */
    private static final String[] CALL_TABLE = {
        "register - 6 6 6", "beat u 4 4 4", "pass s 20 20 4", "setRefill f 2 2 2", "open u 4 4 4",
        "join ur 20 20 20", "leave ur 10 3 10", "type uc 90 60 60", "insert uic 10 10 10", "erase u 4 4 4",
        "reverse u 3 3 3", "say ur 40 40 30", "reply um 30 80 20", "edit um 30 10 60", "remove um 12 3 6",
        "read ur 12 3 6", "readTo um 20 6 10", "users - 1 1 1", "rooms - 1 1 1", "messages - 1 1 1",
        "time - 1 1 1", "presence u 6 3 3", "tokens u 4 3 3", "tokenBits u 4 3 3", "draftLength u 2 2 2",
        "draftAt ui 6 3 3", "members r 2 2 2", "memberAt ri 4 2 2", "present r 4 2 2", "owner r 3 2 2",
        "countOf r 2 2 2", "messageAt ri 3 3 2", "rankOf m 3 3 2", "author m 2 2 2", "roomOf m 2 2 2",
        "length m 2 2 2", "charAt mi 4 2 4", "edits m 2 2 4", "isRemoved m 2 2 2", "parent m 2 4 2",
        "depth m 2 6 2", "threadSize m 2 12 2", "threadAt mi 4 40 2", "mentions mu 10 4 20", "unread ur 10 4 6",
        "unreadByLog ur 10 4 6", "unreadMentions ur 10 4 20", "mentionsByLog ur 10 4 20", "events - 2 2 2",
        "eventsOf k 4 2 2", "seenShare m 10 6 6", "activity u 5 5 5", "activityBits u 5 5 5"
    };

    private static final String SIGNS = "@@@@@@aabbccddeeff !~xyz";
    private static final int[] WILD = {-1, -2, 20, 21, 60, 61, 512, 601, Integer.MIN_VALUE, Integer.MAX_VALUE};

    public static void main(String[] args) {
        int[] returned = new int[CALL_TABLE.length];
        for (int run = 0; run < RUNS; run++) {
            play(run, returned);
        }
        for (int call = 0; call < CALL_TABLE.length; call++) {
            boolean oftenReturned = returned[call] >= 100;
            String name = CALL_TABLE[call];
            due(name + " returned", () -> name + (oftenReturned ? " returned" : " hardly ever returned"));
        }
        end();
    }

    private static void play(int run, int[] returned) {
        Random random = new Random(run);
        List<Integer> deck = deck(run % 3);
        Inglenook real = new Inglenook();
        Model model = new Model();
        for (int call = 0; call < CALLS; call++) {
            int drawn = call < 2 ? 0 : deck.get(random.nextInt(deck.size()));
            String[] entry = CALL_TABLE[drawn].split(" ");
            Object[] values = values(entry[1], random, model);
            Object want = answer(model, entry[0], values);
            Object got = answer(real, entry[0], values);
            String told = "run " + run + ", call " + call + ": " + entry[0] + List.of(values) + " ";
            due(told + want, () -> told + got);
            returned[drawn] += want instanceof Class ? 0 : 1;
        }
    }

    private static List<Integer> deck(int kindOfRun) {
        List<Integer> deck = new ArrayList<>();
        for (int call = 0; call < CALL_TABLE.length; call++) {
            int often = Integer.parseInt(CALL_TABLE[call].split(" ")[2 + kindOfRun]);
            for (int count = 0; count < often; count++) {
                deck.add(call);
            }
        }
        return deck;
    }

    private static Object[] values(String kinds, Random random, Model model) {
        if (kinds.equals("-")) {
            return new Object[0];
        }
        Object[] values = new Object[kinds.length()];
        for (int index = 0; index < values.length; index++) {
            values[index] = argument(kinds.charAt(index), random, model);
        }
        return values;
    }

    private static Object argument(char kind, Random random, Model model) {
        boolean wild = random.nextInt(40) == 0;
        if (kind == 'c') {
            return wild ? (char) random.nextInt(300) : SIGNS.charAt(random.nextInt(SIGNS.length()));
        }
        if (kind == 'k') {
            return wild ? (char) random.nextInt(300) : "rojlsexmp".charAt(random.nextInt(9));
        }
        if (wild) {
            return WILD[random.nextInt(WILD.length)];
        }
        switch (kind) {
            case 'u':
                return random.nextInt(model.users() + (random.nextInt(10) == 0 ? 1 : 0));
            case 'r':
                return random.nextInt(model.rooms() + (random.nextInt(10) == 0 ? 1 : 0) + (model.rooms() == 0 ? 1 : 0));
            case 'm':
                return newMessage(random, model.messages());
            case 's':
                return 1 + random.nextInt(random.nextInt(4) == 0 ? 600 : 20);
            case 'f':
                return random.nextInt(3) == 0 ? 64 : random.nextInt(65);
            default:
                return random.nextInt(random.nextInt(3) == 0 ? 21 : 5);
        }
    }

    /** Late messages are drawn more often: early ones cannot be edited any more. */
    private static int newMessage(Random random, int messages) {
        if (messages == 0 || random.nextInt(30) == 0) {
            return messages;
        }
        return random.nextBoolean() ? random.nextInt(messages) : messages - 1 - random.nextInt(Math.min(4, messages));
    }

    private static Object answer(Object server, String name, Object[] values) {
        try {
            Class<?>[] types = new Class<?>[values.length];
            for (int index = 0; index < values.length; index++) {
                types[index] = values[index] instanceof Character ? char.class : int.class;
            }
            Method method = server.getClass().getMethod(name, types);
            return method.invoke(server, values);
        } catch (InvocationTargetException e) {
            return e.getCause().getClass();
        } catch (ReflectiveOperationException e) {
            throw new IllegalStateException(e);
        }
    }
}
