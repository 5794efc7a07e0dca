import java.nio.file.Path;
import java.util.ArrayList;
import java.util.Arrays;
import java.util.List;

/**
 * What the tests of the document's sentences share: each test quotes the sentence that it is for, and at the end no
 * sentence of the named headings may be left without a test.
 */
abstract class Edges extends Checks {
    interface Make {
        Inglenook made();
    }

    interface Act {
        Object on(Inglenook x);
    }

    interface Numbered {
        Object on(Inglenook x, int number);
    }

    static final String NO_SUCH_USER = "Throws `NoSuchElementException` if there is no such user";
    static final String NO_SUCH_ROOM = "Throws `NoSuchElementException` if there is no such room";
    static final String NO_SUCH_MESSAGE = "Throws `NoSuchElementException` if there is no such message";
    static final String NO_SUCH_USER_OR_ROOM = "Throws `NoSuchElementException` if there is no such user or no such room";
    static final String NO_SUCH_USER_OR_MESSAGE =
        "Throws `NoSuchElementException` if there is no such user or no such message";
    static final String NO_SUCH_MESSAGE_OR_USER =
        "Throws `NoSuchElementException` if there is no such message or no such user";
    static final String NO_SUCH_INDEX = "Throws `IndexOutOfBoundsException` if there is no such index";
    static final String NO_SUCH_RANK = "Throws `IndexOutOfBoundsException` if there is no such rank";
    static final String NOT_A_MEMBER = "Throws `UnsupportedOperationException` if the user is not a member of the room";

    static final int LEAST = Integer.MIN_VALUE;
    static final int MOST = Integer.MAX_VALUE;

    private static final Document DOCUMENT = new Document(Path.of("../shared/DOC.md"));

    static void edge(String heading, String sentence, Runnable test) {
        due(sentence, () -> DOCUMENT.quote(heading, sentence));
        int before = checksMade();
        Object end = outcome(() -> {
            test.run();
            return "the test ran to its end";
        });
        String name = heading + ", " + sentence + ": ";
        due(name + "the test ran to its end", () -> name + end);
        due(true, () -> checksMade() > before);
    }

    /** For what an answer is, where the document tells it twice in nearly the same words. */
    static void edge(String heading, String sentence, String again, Runnable test) {
        due(again, () -> DOCUMENT.quote(heading, again));
        edge(heading, sentence, test);
    }

    /** A sentence that only tells what others promise, or that something is free. */
    static void noEdge(String heading, String sentence) {
        due(sentence, () -> DOCUMENT.quote(heading, sentence));
    }

    static void noSentenceIsLeft(String... headings) {
        due(List.of(), () -> DOCUMENT.unquoted(Arrays.asList(headings)));
    }

    static void promisesAreComplete(int first, int last) {
        List<String> headings = new ArrayList<>();
        for (int promise = first; promise <= last; promise++) {
            headings.add("Promise " + promise);
        }
        noSentenceIsLeft(headings.toArray(new String[0]));
    }

    /** The call throws this and changes nothing. */
    static void refused(Class<? extends RuntimeException> want, Make make, Act act) {
        refuses(want, () -> act.on(make.made()));
        changesNothing(make, act);
    }

    /** Nothing tells the server from its twin that has not been called. */
    static void changesNothing(Make make, Act act) {
        for (List<Witness.Probe> part : new Witness(make.made()).parts()) {
            Inglenook called = make.made();
            outcome(() -> act.on(called));
            Inglenook twin = make.made();
            due("as before", () -> change(twin, called, part));
        }
    }

    private static String change(Inglenook twin, Inglenook called, List<Witness.Probe> part) {
        for (Witness.Probe probe : part) {
            Object before = outcome(() -> probe.act.on(twin));
            Object after = outcome(() -> probe.act.on(called));
            if (!before.equals(after)) {
                return probe.name + " was " + before + ", is " + after;
            }
        }
        return "as before";
    }

    private static void found(Make make, Act act) {
        Object got = outcome(() -> act.on(make.made()));
        due(false, () -> got.equals(NO_SUCH));
    }

    /** The act names a user, and otherwise only what there is in the town. */
    static void noSuchUser(Numbered act) {
        for (int user : new int[] {-1, 4, 5, 6, 32, LEAST, MOST}) {
            refused(NO_SUCH, Edges::town, x -> act.on(x, user));
        }
        refused(NO_SUCH, Inglenook::new, x -> act.on(x, 0));
        found(Edges::town, x -> act.on(x, 0));
        found(Edges::town, x -> act.on(x, 3));
        found(Edges::wholeTown, x -> act.on(x, 5));
        refused(NO_SUCH, Edges::wholeTown, x -> act.on(x, 6));
    }

    static void noSuchRoom(Numbered act) {
        for (int room : new int[] {-1, 3, 4, 32, LEAST, MOST}) {
            refused(NO_SUCH, Edges::town, x -> act.on(x, room));
        }
        refused(NO_SUCH, () -> server(4), x -> act.on(x, 0));
        found(Edges::town, x -> act.on(x, 0));
        found(Edges::town, x -> act.on(x, 2));
        found(Edges::wholeTown, x -> act.on(x, 3));
        refused(NO_SUCH, Edges::wholeTown, x -> act.on(x, 4));
    }

    static void noSuchMessage(Numbered act) {
        for (int message : new int[] {-1, 5, 6, 60, LEAST, MOST}) {
            refused(NO_SUCH, Edges::town, x -> act.on(x, message));
        }
        refused(NO_SUCH, () -> roomOf(4), x -> act.on(x, 0));
        found(Edges::town, x -> act.on(x, 0));
        found(Edges::town, x -> act.on(x, 4));
        found(() -> filled(60), x -> act.on(x, 59));
        refused(NO_SUCH, () -> filled(60), x -> act.on(x, 60));
    }

    /** The act names an index or a rank of which there are so many. */
    static void noSuchIndex(int count, Make make, Numbered act) {
        for (int index : new int[] {-1, count, count + 1, LEAST, MOST}) {
            refused(NO_INDEX, make, x -> act.on(x, index));
        }
        for (int index = 0; index < count; index++) {
            int number = index;
            Object got = outcome(() -> act.on(make.made(), number));
            due(false, () -> got instanceof Class);
        }
    }

    /**
     * Four users, who all were seen 50 seconds ago; a refill of 0. In room 0 are the users 0, 1 and 2, in room 1 the
     * users 3 and 0, and room 2 has been left. Messages 0, 1, 2 (a reply to 0) and 4 (removed) are in room 0, and 3 in
     * room 1. The user 2 has no draft.
     */
    static Inglenook town() {
        Inglenook x = server(4);
        x.setRefill(0);
        x.open(0);
        x.join(1, 0);
        x.join(2, 0);
        x.open(3);
        x.join(0, 1);
        x.open(2);
        x.leave(2, 2);
        say(x, 0, 0, "@b@c");
        say(x, 1, 0, "@a@c");
        reply(x, 2, 0, "@a@b");
        say(x, 3, 1, "@a@b");
        say(x, 1, 0, "gone");
        x.remove(1, 4);
        x.readTo(1, 0);
        x.readTo(2, 1);
        write(x, 0, "zero");
        write(x, 1, "one");
        write(x, 3, "three");
        x.pass(50);
        return x;
    }

    /** The town with six users and four rooms, the last of which is that of the user 4. */
    static Inglenook wholeTown() {
        Inglenook x = town();
        x.register();
        x.register();
        x.open(4);
        x.pass(7);
        return x;
    }

    /** A room of six, so many messages in it, all users with four tokens, and the user 0 with a draft. */
    static Inglenook filled(int messages) {
        Inglenook x = roomOf(6);
        x.setRefill(64);
        for (int message = 0; message < messages; message++) {
            if (message == 24 || message == 48) {
                x.pass(4);
            }
            say(x, message % 6, 0, "m");
        }
        write(x, 0, "draft");
        x.pass(10);
        return x;
    }

    /** A room of three with four messages of the user 0, who has so many 64ths of a token left, and a draft. */
    static Inglenook poor(int sixtyFourths) {
        Inglenook x = roomOf(3);
        x.setRefill(1);
        for (int message = 0; message < 4; message++) {
            say(x, 0, 0, "m");
        }
        if (sixtyFourths > 0) {
            x.pass(sixtyFourths);
        }
        x.setRefill(0);
        write(x, 0, "draft");
        x.pass(1);
        return x;
    }

    /** One user in one room, whose draft has so many characters: "abc" and so on. */
    static Inglenook drafted(int length) {
        Inglenook x = roomOf(1);
        write(x, 0, "abcdefghijklmnopqrst".substring(0, length));
        x.pass(1);
        return x;
    }
}
