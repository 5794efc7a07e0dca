/** Promises 17, 18, 46, 47 and 52: marks, what is unread from the room and by the log, and the share that has seen it. */
final class MarksTest extends Checks {
    public static void main(String[] args) {
        newMessagesAreUnread();
        readingMovesTheMarkToTheEnd();
        readToMovesTheMarkBothWays();
        joiningStartsAtTheEnd();
        removedMessagesAreNotUnread();
        removingLeavesTheMarks();
        eachReplayStartsAfresh();
        roomsAreApart();
        editingLeavesTheMarks();
        refusals();
        sharesOfThoseWhoSaw();
        sharesAreFloatQuotients();
        nobodyElseHasNoShare();
        end();
    }

    private static void bothUnread(Inglenook x, int user, int room, int want) {
        due(want, () -> x.unread(user, room));
        due(want, () -> x.unreadByLog(user, room));
    }

    private static void newMessagesAreUnread() {
        Inglenook x = roomOf(3);
        bothUnread(x, 0, 0, 0);
        say(x, 0, 0, "a");
        bothUnread(x, 0, 0, 0);
        bothUnread(x, 1, 0, 1);
        reply(x, 1, 0, "b");
        say(x, 1, 0, "c");
        bothUnread(x, 0, 0, 2);
        bothUnread(x, 1, 0, 1);
        bothUnread(x, 2, 0, 3);
    }

    private static void readingMovesTheMarkToTheEnd() {
        Inglenook x = roomOf(3);
        due(0, () -> x.read(1, 0));
        say(x, 0, 0, "a");
        say(x, 1, 0, "b");
        say(x, 0, 0, "c");
        due(2, () -> x.read(1, 0));
        bothUnread(x, 1, 0, 0);
        bothUnread(x, 2, 0, 3);
        due(0, () -> x.read(1, 0));
        say(x, 2, 0, "d");
        due(1, () -> x.read(1, 0));
        due(2, () -> x.read(0, 0));
        due(3, () -> x.read(2, 0));
        bothUnread(x, 0, 0, 0);
        bothUnread(x, 2, 0, 0);
    }

    private static void readToMovesTheMarkBothWays() {
        Inglenook x = roomOf(3);
        say(x, 0, 0, "a");
        say(x, 1, 0, "b");
        say(x, 0, 0, "c");
        say(x, 0, 0, "d");
        due(3, () -> x.readTo(2, 0));
        bothUnread(x, 2, 0, 3);
        due(1, () -> x.readTo(2, 2));
        bothUnread(x, 2, 0, 1);
        due(0, () -> x.readTo(2, 3));
        due(2, () -> x.readTo(2, 1));
        bothUnread(x, 2, 0, 2);
        due(2, () -> x.readTo(1, 0));
        due(2, () -> x.readTo(1, 1));
        due(0, () -> x.readTo(0, 1));
        x.read(1, 0);
        due(2, () -> x.readTo(1, 0));
        x.remove(0, 2);
        due(1, () -> x.readTo(1, 1));
        due(1, () -> x.readTo(1, 2));
        bothUnread(x, 1, 0, 1);
        say(x, 2, 0, "e");
        bothUnread(x, 1, 0, 2);
    }

    private static void joiningStartsAtTheEnd() {
        Inglenook x = roomOf(2);
        x.register();
        say(x, 0, 0, "a");
        say(x, 0, 0, "b");
        x.join(2, 0);
        bothUnread(x, 2, 0, 0);
        say(x, 1, 0, "c");
        bothUnread(x, 2, 0, 1);
        x.leave(2, 0);
        refuses(NOT_ALLOWED, () -> x.unread(2, 0));
        refuses(NOT_ALLOWED, () -> x.unreadByLog(2, 0));
        say(x, 1, 0, "d");
        x.join(2, 0);
        bothUnread(x, 2, 0, 0);
        due(2, () -> x.readTo(2, 1));
        bothUnread(x, 2, 0, 2);
        bothUnread(x, 1, 0, 2);
        x.leave(1, 0);
        x.join(1, 0);
        bothUnread(x, 1, 0, 0);
    }

    private static void removedMessagesAreNotUnread() {
        Inglenook x = roomOf(2);
        say(x, 0, 0, "a");
        say(x, 0, 0, "b");
        say(x, 0, 0, "c");
        x.remove(0, 1);
        bothUnread(x, 1, 0, 2);
        due(1, () -> x.readTo(1, 0));
        due(1, () -> x.readTo(1, 1));
        x.remove(0, 2);
        bothUnread(x, 1, 0, 0);
        due(0, () -> x.read(1, 0));
    }

    private static void removingLeavesTheMarks() {
        Inglenook x = roomOf(2);
        say(x, 1, 0, "a");
        say(x, 1, 0, "b");
        say(x, 1, 0, "c");
        x.remove(0, 2);
        bothUnread(x, 0, 0, 2);
        x.read(0, 0);
        say(x, 1, 0, "d");
        x.remove(0, 0);
        bothUnread(x, 0, 0, 1);
    }

    private static void eachReplayStartsAfresh() {
        Inglenook x = roomOf(2);
        x.open(0);
        x.join(1, 1);
        say(x, 0, 0, "a");
        say(x, 0, 1, "b");
        x.remove(0, 0);
        bothUnread(x, 1, 0, 0);
        bothUnread(x, 1, 1, 1);
        bothUnread(x, 1, 0, 0);
        x.leave(1, 0);
        refuses(NOT_ALLOWED, () -> x.unreadByLog(1, 0));
        bothUnread(x, 1, 1, 1);
        bothUnread(x, 0, 1, 0);
    }

    private static void roomsAreApart() {
        Inglenook x = roomOf(2);
        x.open(0);
        x.open(0);
        x.join(1, 2);
        say(x, 0, 1, "a");
        say(x, 0, 2, "b");
        say(x, 0, 0, "c");
        say(x, 0, 2, "d");
        bothUnread(x, 1, 0, 1);
        bothUnread(x, 1, 2, 2);
        due(1, () -> x.readTo(1, 1));
        bothUnread(x, 1, 2, 1);
        bothUnread(x, 1, 0, 1);
        due(1, () -> x.read(1, 0));
        bothUnread(x, 1, 2, 1);
        x.remove(0, 3);
        bothUnread(x, 1, 2, 0);
        x.leave(1, 0);
        bothUnread(x, 1, 2, 0);
        refuses(NOT_ALLOWED, () -> x.unread(1, 0));
        refuses(NOT_ALLOWED, () -> x.unread(1, 1));
        refuses(NOT_ALLOWED, () -> x.unreadByLog(1, 1));
    }

    private static void editingLeavesTheMarks() {
        Inglenook x = roomOf(2);
        say(x, 0, 0, "a");
        say(x, 0, 0, "b");
        x.readTo(1, 0);
        edit(x, 0, 0, "c");
        bothUnread(x, 1, 0, 1);
        edit(x, 0, 1, "d");
        bothUnread(x, 1, 0, 1);
        due(0.0f, () -> x.seenShare(1));
        due(1.0f, () -> x.seenShare(0));
    }

    private static void refusals() {
        Inglenook x = roomOf(2);
        x.register();
        x.open(2);
        say(x, 0, 0, "a");
        say(x, 0, 0, "b");
        say(x, 0, 0, "c");
        refuses(NOT_ALLOWED, () -> x.read(2, 0));
        refuses(NOT_ALLOWED, () -> x.read(0, 1));
        refuses(NOT_ALLOWED, () -> x.readTo(2, 0));
        refuses(NOT_ALLOWED, () -> x.unread(2, 0));
        refuses(NOT_ALLOWED, () -> x.unreadByLog(2, 0));
        for (int number : new int[] {-1, 3, 60, Integer.MIN_VALUE, Integer.MAX_VALUE}) {
            refuses(NO_SUCH, () -> x.read(number, 0));
            refuses(NO_SUCH, () -> x.read(0, number));
            refuses(NO_SUCH, () -> x.read(2, number));
            refuses(NO_SUCH, () -> x.readTo(number, 0));
            refuses(NO_SUCH, () -> x.readTo(2, number));
            refuses(NO_SUCH, () -> x.unread(number, 0));
            refuses(NO_SUCH, () -> x.unread(2, number));
            refuses(NO_SUCH, () -> x.unreadByLog(number, 0));
            refuses(NO_SUCH, () -> x.unreadByLog(2, number));
            refuses(NO_SUCH, () -> x.seenShare(number));
        }
        bothUnread(x, 1, 0, 3);
        due(0, () -> x.eventsOf('m'));
    }

    private static void sharesOfThoseWhoSaw() {
        Inglenook x = roomOf(5);
        say(x, 0, 0, "a");
        say(x, 1, 0, "b");
        due(0.0f, () -> x.seenShare(0));
        x.readTo(1, 0);
        due(0.25f, () -> x.seenShare(0));
        due(0.0f, () -> x.seenShare(1));
        x.read(2, 0);
        due(0.5f, () -> x.seenShare(0));
        due(0.25f, () -> x.seenShare(1));
        x.read(0, 0);
        due(0.5f, () -> x.seenShare(0));
        due(0.5f, () -> x.seenShare(1));
        x.read(1, 0);
        due(0.5f, () -> x.seenShare(1));
        x.remove(0, 0);
        due(0.5f, () -> x.seenShare(0));
        x.leave(3, 0);
        x.leave(4, 0);
        due(1.0f, () -> x.seenShare(0));
        x.leave(0, 0);
        due(1.0f, () -> x.seenShare(0));
        x.readTo(2, 0);
        due(0.0f, () -> x.seenShare(1));
        x.leave(2, 0);
        x.join(2, 0);
        due(1.0f, () -> x.seenShare(1));
    }

    private static void sharesAreFloatQuotients() {
        Inglenook x = roomOf(6);
        x.leave(0, 0);
        x.join(0, 0);
        say(x, 0, 0, "a");
        for (int user = 1; user < 6; user++) {
            x.read(user, 0);
            float share = (float) user / 5.0f;
            due(share, () -> x.seenShare(0));
        }
        x.leave(4, 0);
        x.leave(5, 0);
        x.readTo(0, 0);
        due(1.0f, () -> x.seenShare(0));
        x.pass(8);
        int message = say(x, 0, 0, "b");
        x.read(3, 0);
        due(1.0f / 3.0f, () -> x.seenShare(message));
        x.read(1, 0);
        due(2.0f / 3.0f, () -> x.seenShare(message));
    }

    private static void nobodyElseHasNoShare() {
        Inglenook x = roomOf(2);
        x.open(0);
        say(x, 0, 1, "a");
        refuses(NO_SHARE, () -> x.seenShare(0));
        x.read(0, 1);
        refuses(NO_SHARE, () -> x.seenShare(0));
        x.join(1, 1);
        due(1.0f, () -> x.seenShare(0));
        x.leave(0, 1);
        due(1.0f, () -> x.seenShare(0));
        x.leave(1, 1);
        refuses(NO_SHARE, () -> x.seenShare(0));
        refuses(NO_SUCH, () -> x.seenShare(1));
    }
}
