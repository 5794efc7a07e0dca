/** Promises 45, 48 and 49: who is mentioned, and which mentions are unread. */
final class MentionsTest extends Checks {
    public static void main(String[] args) {
        theLetterFollowsTheSign();
        anAuthorIsNotMentioned();
        membershipCountsWhenSaid();
        membershipCountsWhenLastEdited();
        aUserWhoComesLaterIsNotMentioned();
        removedMessagesMentionNobody();
        repliesMentionToo();
        unreadMentionsGoByMarks();
        unreadMentionsStayInTheirRoom();
        editingTheFirstMessageCounts();
        eachReplayStartsAfresh();
        wrongNumbersAreRefused();
        end();
    }

    /** The users whom a message mentions, as letters. */
    private static String mentioned(Inglenook x, int message) {
        StringBuilder letters = new StringBuilder();
        for (int user = 0; user < x.users(); user++) {
            letters.append(x.mentions(message, user) ? String.valueOf((char) ('a' + user)) : "");
        }
        return letters.toString();
    }

    private static void theLetterFollowsTheSign() {
        String[] texts = {
            "@b", "@ b", "b@", "@", "b", "@@b", "@b@c@d", "@B", "x@fx", "@bb", "@cb", "@g", "a@e", "@f@", "@`b",
            "the end is @c", "@b @b", "@{", "abcdef@", "@a@b@c@d@e@f", "..................@d"
        };
        String[] wants = {
            "b", "", "", "", "", "b", "bcd", "", "f", "b", "c", "", "e", "f", "",
            "c", "b", "", "", "bcdef", "d"
        };
        Inglenook x = roomOf(6);
        x.setRefill(64);
        for (int index = 0; index < texts.length; index++) {
            x.pass(1);
            int message = say(x, 0, 0, texts[index]);
            int number = index;
            due(wants[number], () -> mentioned(x, message));
        }
    }

    private static void anAuthorIsNotMentioned() {
        Inglenook x = roomOf(3);
        say(x, 1, 0, "@a@b@c");
        due(true, () -> x.mentions(0, 0));
        due(false, () -> x.mentions(0, 1));
        due(true, () -> x.mentions(0, 2));
        edit(x, 1, 0, "@b");
        due("", () -> mentioned(x, 0));
        edit(x, 1, 0, "@c@b");
        due("c", () -> mentioned(x, 0));
    }

    private static void membershipCountsWhenSaid() {
        Inglenook x = roomOf(3);
        x.leave(2, 0);
        say(x, 0, 0, "@b@c");
        due("b", () -> mentioned(x, 0));
        x.join(2, 0);
        due("b", () -> mentioned(x, 0));
        x.leave(1, 0);
        due("b", () -> mentioned(x, 0));
        say(x, 0, 0, "@b@c");
        due("c", () -> mentioned(x, 1));
        due("b", () -> mentioned(x, 0));
    }

    private static void membershipCountsWhenLastEdited() {
        Inglenook x = roomOf(3);
        x.leave(2, 0);
        say(x, 0, 0, "@b@c");
        x.join(2, 0);
        x.leave(1, 0);
        edit(x, 0, 0, "@c@b");
        due("c", () -> mentioned(x, 0));
        x.join(1, 0);
        x.readTo(1, 0);
        due("c", () -> mentioned(x, 0));
        edit(x, 0, 0, "@b");
        due("b", () -> mentioned(x, 0));
        x.leave(0, 0);
        edit(x, 0, 0, "@a@b@c");
        due("bc", () -> mentioned(x, 0));
        edit(x, 0, 0, "none");
        due("", () -> mentioned(x, 0));
    }

    private static void aUserWhoComesLaterIsNotMentioned() {
        Inglenook x = roomOf(1);
        say(x, 0, 0, "@b");
        x.register();
        due(false, () -> x.mentions(0, 1));
        x.join(1, 0);
        due(false, () -> x.mentions(0, 1));
        edit(x, 0, 0, "@b");
        due(true, () -> x.mentions(0, 1));
    }

    private static void removedMessagesMentionNobody() {
        Inglenook x = roomOf(3);
        say(x, 0, 0, "@b@c");
        say(x, 0, 0, "@b@c");
        x.remove(0, 0);
        due("", () -> mentioned(x, 0));
        due("bc", () -> mentioned(x, 1));
        due(1, () -> x.unreadMentions(1, 0));
        due(1, () -> x.mentionsByLog(1, 0));
    }

    private static void repliesMentionToo() {
        Inglenook x = roomOf(3);
        say(x, 0, 0, "@b");
        reply(x, 1, 0, "@a@c");
        due("ac", () -> mentioned(x, 1));
        due(1, () -> x.unreadMentions(0, 0));
        due(1, () -> x.mentionsByLog(0, 0));
    }

    private static void bothMentions(Inglenook x, int user, int room, int want) {
        due(want, () -> x.unreadMentions(user, room));
        due(want, () -> x.mentionsByLog(user, room));
    }

    private static void unreadMentionsGoByMarks() {
        Inglenook x = roomOf(3);
        bothMentions(x, 1, 0, 0);
        say(x, 0, 0, "@b");
        say(x, 0, 0, "b");
        say(x, 2, 0, "@b@a");
        say(x, 1, 0, "@b@a");
        bothMentions(x, 1, 0, 2);
        bothMentions(x, 0, 0, 2);
        bothMentions(x, 2, 0, 0);
        x.readTo(1, 0);
        bothMentions(x, 1, 0, 1);
        x.readTo(1, 2);
        bothMentions(x, 1, 0, 0);
        edit(x, 0, 1, "@b");
        bothMentions(x, 1, 0, 0);
        x.readTo(1, 0);
        bothMentions(x, 1, 0, 2);
        edit(x, 2, 2, "@a");
        bothMentions(x, 1, 0, 1);
        bothMentions(x, 0, 0, 2);
        x.remove(0, 1);
        bothMentions(x, 1, 0, 0);
        x.read(0, 0);
        bothMentions(x, 0, 0, 0);
        x.leave(1, 0);
        refuses(NOT_ALLOWED, () -> x.unreadMentions(1, 0));
        refuses(NOT_ALLOWED, () -> x.mentionsByLog(1, 0));
        say(x, 0, 0, "@b");
        x.join(1, 0);
        bothMentions(x, 1, 0, 0);
        x.readTo(1, 0);
        bothMentions(x, 1, 0, 0);
        say(x, 2, 0, "@b");
        bothMentions(x, 1, 0, 1);
    }

    private static void unreadMentionsStayInTheirRoom() {
        Inglenook x = roomOf(3);
        x.open(1);
        x.join(0, 1);
        say(x, 0, 1, "@b@c");
        say(x, 0, 0, "@c");
        say(x, 0, 1, "@b");
        bothMentions(x, 1, 1, 2);
        bothMentions(x, 1, 0, 0);
        bothMentions(x, 2, 0, 1);
        refuses(NOT_ALLOWED, () -> x.unreadMentions(2, 1));
        refuses(NOT_ALLOWED, () -> x.mentionsByLog(2, 1));
        due(false, () -> x.mentions(0, 2));
    }

    private static void editingTheFirstMessageCounts() {
        Inglenook x = roomOf(2);
        say(x, 0, 0, "nobody");
        say(x, 0, 0, "nobody");
        bothMentions(x, 1, 0, 0);
        edit(x, 0, 0, "@b");
        bothMentions(x, 1, 0, 1);
        edit(x, 0, 0, "b@");
        bothMentions(x, 1, 0, 0);
    }

    /** The user 0 joins room 1 only after it was called there: no replay may know it as a member before. */
    private static void eachReplayStartsAfresh() {
        Inglenook x = roomOf(3);
        x.open(1);
        x.join(2, 1);
        say(x, 1, 0, "@a@c");
        say(x, 1, 1, "first");
        say(x, 1, 1, "@a@c");
        due("ac", () -> mentioned(x, 0));
        due("c", () -> mentioned(x, 2));
        x.join(0, 1);
        x.readTo(0, 1);
        due(1, () -> x.unread(0, 1));
        bothMentions(x, 0, 0, 1);
        bothMentions(x, 0, 1, 0);
        bothMentions(x, 2, 1, 1);
        bothMentions(x, 0, 1, 0);
        say(x, 2, 1, "@a");
        bothMentions(x, 0, 1, 1);
        x.leave(0, 1);
        edit(x, 2, 3, "@a@b");
        x.join(0, 1);
        x.readTo(0, 1);
        bothMentions(x, 0, 1, 0);
        bothMentions(x, 1, 1, 1);
        bothMentions(x, 0, 0, 1);
    }

    private static void wrongNumbersAreRefused() {
        Inglenook x = roomOf(2);
        say(x, 0, 0, "@b");
        for (int number : new int[] {-1, 2, 60, Integer.MIN_VALUE, Integer.MAX_VALUE}) {
            refuses(NO_SUCH, () -> x.mentions(number, 0));
            refuses(NO_SUCH, () -> x.mentions(0, number));
            refuses(NO_SUCH, () -> x.mentions(number, number));
            refuses(NO_SUCH, () -> x.unreadMentions(number, 0));
            refuses(NO_SUCH, () -> x.unreadMentions(0, number));
            refuses(NO_SUCH, () -> x.mentionsByLog(number, 0));
            refuses(NO_SUCH, () -> x.mentionsByLog(0, number));
        }
        refuses(NO_SUCH, () -> x.mentions(1, 1));
    }
}
