/** Promises 13 to 16, 21 and 32 to 40: messages are said, answered, edited and removed. */
final class MessagesTest extends Checks {
    private static final int[] NO_NUMBERS = {-1, 2, 60, Integer.MIN_VALUE, Integer.MAX_VALUE};

    public static void main(String[] args) {
        sayingMakesAMessage();
        messagesHaveRanksInTheirRooms();
        sayRefuses();
        sayingTakesAToken();
        replyRefuses();
        sixtyMessagesAreAll();
        editingReplacesTheText();
        editingTakesHalfAToken();
        editingEndsAfterSixtySeconds();
        editRefusesInItsOrder();
        editingNeedsNoMembership();
        removingEmptiesTheText();
        removingIsForAuthorAndOwner();
        removeRefuses();
        removeCountsItsRoom();
        wrongMessagesAreRefused();
        end();
    }

    private static void sayingMakesAMessage() {
        Inglenook x = roomOf(2);
        write(x, 1, " h~ ");
        due(0, () -> x.say(1, 0));
        due(1, () -> x.messages());
        due(1, () -> x.author(0));
        due(0, () -> x.roomOf(0));
        due(0, () -> x.rankOf(0));
        due(4, () -> x.length(0));
        due(" h~ ", () -> text(x, 0));
        refuses(NO_INDEX, () -> x.charAt(0, 4));
        refuses(NO_INDEX, () -> x.charAt(0, -1));
        refuses(NO_INDEX, () -> x.charAt(0, 20));
        refuses(NO_INDEX, () -> x.charAt(0, Integer.MIN_VALUE));
        refuses(NO_INDEX, () -> x.charAt(0, Integer.MAX_VALUE));
        due(0, () -> x.edits(0));
        due(false, () -> x.isRemoved(0));
        due(0, () -> x.draftLength(1));
        due(1, () -> say(x, 0, 0, "abcdefghijklmnopqrst"));
        due("abcdefghijklmnopqrst", () -> text(x, 1));
        due(" h~ ", () -> text(x, 0));
        due(0, () -> x.author(1));
        due(2, () -> x.messages());
    }

    private static void messagesHaveRanksInTheirRooms() {
        Inglenook x = roomOf(2);
        x.open(1);
        x.join(0, 1);
        due(0, () -> say(x, 0, 0, "a"));
        due(1, () -> say(x, 0, 1, "b"));
        due(2, () -> say(x, 1, 1, "c"));
        due(3, () -> reply(x, 1, 0, "d"));
        due(4, () -> reply(x, 0, 2, "e"));
        due(2, () -> x.countOf(0));
        due(3, () -> x.countOf(1));
        due(5, () -> x.messages());
        int[] rooms = {0, 1, 1, 0, 1};
        int[] ranks = {0, 0, 1, 1, 2};
        for (int message = 0; message < 5; message++) {
            int number = message;
            due(rooms[number], () -> x.roomOf(number));
            due(ranks[number], () -> x.rankOf(number));
            due(number, () -> x.messageAt(rooms[number], ranks[number]));
        }
        refuses(NO_INDEX, () -> x.messageAt(0, 2));
        refuses(NO_INDEX, () -> x.messageAt(1, 3));
        refuses(NO_INDEX, () -> x.messageAt(0, -1));
        refuses(NO_INDEX, () -> x.messageAt(0, Integer.MIN_VALUE));
        refuses(NO_INDEX, () -> x.messageAt(0, Integer.MAX_VALUE));
        x.remove(0, 1);
        due(3, () -> x.countOf(1));
        due(5, () -> x.messages());
        due(1, () -> x.messageAt(1, 0));
        due(1, () -> x.rankOf(2));
        x.open(0);
        refuses(NO_INDEX, () -> x.messageAt(2, 0));
        due(0, () -> x.countOf(2));
    }

    private static void sayRefuses() {
        Inglenook x = roomOf(2);
        x.register();
        refuses(BAD_STATE, () -> x.say(0, 0));
        refuses(NOT_ALLOWED, () -> x.say(2, 0));
        write(x, 2, "x");
        refuses(NOT_ALLOWED, () -> x.say(2, 0));
        refuses(NO_SUCH, () -> x.say(2, 1));
        refuses(NO_SUCH, () -> x.say(2, -1));
        refuses(NO_SUCH, () -> x.say(3, 0));
        refuses(NO_SUCH, () -> x.say(-1, 0));
        refuses(NO_SUCH, () -> x.say(0, 9));
        due("x", () -> draft(x, 2));
        due(4.0f, () -> x.tokens(2));
        due(0, () -> x.messages());
        x.leave(1, 0);
        write(x, 1, "x");
        refuses(NOT_ALLOWED, () -> x.say(1, 0));
        x.join(1, 0);
        due(0, () -> x.say(1, 0));
    }

    private static void sayingTakesAToken() {
        Inglenook x = roomOf(2);
        for (int count = 0; count < 2; count++) {
            int number = 2 * count;
            due(number, () -> say(x, 0, 0, "s"));
            due(3.0f - number, () -> x.tokens(0));
            due(number + 1, () -> reply(x, 0, 0, "r"));
            due(2.0f - number, () -> x.tokens(0));
        }
        write(x, 0, "n");
        refuses(BAD_STATE, () -> x.say(0, 0));
        refuses(BAD_STATE, () -> x.reply(0, 0));
        due("n", () -> draft(x, 0));
        due(4, () -> x.messages());
        due(4.0f, () -> x.tokens(1));
        x.pass(8);
        due(1.0f, () -> x.tokens(0));
        due(4, () -> x.reply(0, 0));
        due(0.0f, () -> x.tokens(0));
    }

    private static void replyRefuses() {
        Inglenook x = roomOf(2);
        x.register();
        x.open(2);
        say(x, 0, 0, "a");
        say(x, 0, 0, "b");
        refuses(BAD_STATE, () -> x.reply(1, 0));
        refuses(NOT_ALLOWED, () -> x.reply(2, 0));
        write(x, 2, "x");
        refuses(NOT_ALLOWED, () -> x.reply(2, 0));
        for (int message : NO_NUMBERS) {
            refuses(NO_SUCH, () -> x.reply(2, message));
            refuses(NO_SUCH, () -> x.reply(0, message));
        }
        refuses(NO_SUCH, () -> x.reply(3, 0));
        refuses(NO_SUCH, () -> x.reply(-1, 0));
        x.remove(0, 0);
        write(x, 1, "y");
        refuses(NOT_ALLOWED, () -> x.reply(1, 0));
        refuses(NOT_ALLOWED, () -> x.reply(0, 0));
        due(2, () -> x.reply(1, 1));
        due(1, () -> x.parent(2));
        due("y", () -> text(x, 2));
        due(1, () -> x.author(2));
        due(0, () -> x.roomOf(2));
        due(0, () -> x.draftLength(1));
        x.leave(1, 0);
        refuses(NOT_ALLOWED, () -> x.reply(1, 1));
    }

    private static void sixtyMessagesAreAll() {
        Inglenook x = server(6);
        x.setRefill(64);
        for (int room = 0; room < 4; room++) {
            x.open(0);
            x.join(1, room);
        }
        for (int message = 0; message < 60; message++) {
            int number = message;
            int user = number / 4 % 2;
            write(x, user, "x");
            due(number, () -> number % 3 == 2 ? x.reply(user, number - 2) : x.say(user, number % 4));
            x.pass(1);
        }
        due(60, () -> x.messages());
        write(x, 0, "y");
        x.pass(60);
        refuses(BAD_STATE, () -> x.say(0, 0));
        refuses(BAD_STATE, () -> x.reply(0, 59));
        refuses(NOT_ALLOWED, () -> x.say(2, 0));
        refuses(NOT_ALLOWED, () -> x.reply(2, 0));
        due(60, () -> x.messages());
        due(4.0f, () -> x.tokens(0));
        due("y", () -> draft(x, 0));
        refuses(NO_SUCH, () -> x.author(60));
        due(0, () -> x.author(59));
        due(1, () -> x.author(55));
        x.remove(0, 59);
        refuses(BAD_STATE, () -> x.say(0, 0));
    }

    private static void editingReplacesTheText() {
        Inglenook x = roomOf(2);
        say(x, 0, 0, "first");
        say(x, 1, 0, "other");
        write(x, 0, "no");
        due(1, () -> x.edit(0, 0));
        due("no", () -> text(x, 0));
        due("other", () -> text(x, 1));
        due(2, () -> x.length(0));
        refuses(NO_INDEX, () -> x.charAt(0, 2));
        due(0, () -> x.draftLength(0));
        due(1, () -> x.edits(0));
        due(2, () -> edit(x, 0, 0, "abcdefghijklmnopqrst"));
        due("abcdefghijklmnopqrst", () -> text(x, 0));
        due(2, () -> x.edits(0));
        due(0, () -> x.edits(1));
        due(1, () -> edit(x, 1, 1, "!"));
        due("!", () -> text(x, 1));
        due(0, () -> x.author(0));
        due(0, () -> x.rankOf(0));
        due(2, () -> x.messages());
        x.remove(0, 0);
        due(2, () -> x.edits(0));
    }

    private static void editingTakesHalfAToken() {
        Inglenook x = roomOf(2);
        x.setRefill(0);
        say(x, 0, 0, "a");
        for (int count = 1; count <= 6; count++) {
            int edits = count;
            due(edits, () -> edit(x, 0, 0, "b"));
            due(3.0f - edits * 0.5f, () -> x.tokens(0));
        }
        write(x, 0, "c");
        refuses(BAD_STATE, () -> x.edit(0, 0));
        due("b", () -> text(x, 0));
        due("c", () -> draft(x, 0));
        due(6, () -> x.edits(0));
        x.setRefill(1);
        x.pass(31);
        due(0.484375f, () -> x.tokens(0));
        refuses(BAD_STATE, () -> x.edit(0, 0));
        x.pass(1);
        due(7, () -> x.edit(0, 0));
        due(0.0f, () -> x.tokens(0));
        due("c", () -> text(x, 0));
        due(4.0f, () -> x.tokens(1));
    }

    private static void editingEndsAfterSixtySeconds() {
        Inglenook x = roomOf(1);
        x.pass(100);
        say(x, 0, 0, "a");
        x.pass(30);
        say(x, 0, 0, "b");
        due(1, () -> edit(x, 0, 0, "c"));
        x.pass(30);
        due(2, () -> edit(x, 0, 0, "d"));
        x.pass(1);
        write(x, 0, "e");
        refuses(NOT_ALLOWED, () -> x.edit(0, 0));
        due(1, () -> x.edit(0, 1));
        x.pass(30);
        write(x, 0, "f");
        refuses(NOT_ALLOWED, () -> x.edit(0, 1));
        due("d", () -> text(x, 0));
        due("e", () -> text(x, 1));
        due("f", () -> draft(x, 0));
    }

    private static void editRefusesInItsOrder() {
        Inglenook x = roomOf(2);
        say(x, 0, 0, "a");
        say(x, 1, 0, "b");
        refuses(BAD_STATE, () -> x.edit(0, 0));
        refuses(NOT_ALLOWED, () -> x.edit(1, 0));
        write(x, 0, "x");
        refuses(NOT_ALLOWED, () -> x.edit(0, 1));
        for (int message : NO_NUMBERS) {
            refuses(NO_SUCH, () -> x.edit(0, message));
        }
        refuses(NO_SUCH, () -> x.edit(2, 0));
        refuses(NO_SUCH, () -> x.edit(-1, 0));
        x.remove(0, 0);
        refuses(NOT_ALLOWED, () -> x.edit(0, 0));
        refuses(NOT_ALLOWED, () -> x.edit(1, 0));
        due(0, () -> x.edits(0));
        due("x", () -> draft(x, 0));
        due(3.0f, () -> x.tokens(0));
        due(0, () -> x.length(0));
    }

    private static void editingNeedsNoMembership() {
        Inglenook x = roomOf(2);
        say(x, 0, 0, "a");
        x.leave(0, 0);
        due(1, () -> edit(x, 0, 0, "b"));
        due("b", () -> text(x, 0));
        due(0, () -> x.remove(0, 0));
        due(true, () -> x.isRemoved(0));
    }

    private static void removingEmptiesTheText() {
        Inglenook x = roomOf(2);
        say(x, 0, 0, "abc");
        say(x, 1, 0, "def");
        edit(x, 0, 0, "ghi");
        due(1, () -> x.remove(0, 0));
        due(true, () -> x.isRemoved(0));
        due(false, () -> x.isRemoved(1));
        due(0, () -> x.length(0));
        refuses(NO_INDEX, () -> x.charAt(0, 0));
        due(3, () -> x.length(1));
        due(0, () -> x.author(0));
        due(0, () -> x.roomOf(0));
        due(0, () -> x.rankOf(0));
        due(1, () -> x.edits(0));
        due(1, () -> x.rankOf(1));
        due(2, () -> x.countOf(0));
        due(2, () -> x.messages());
        due(2, () -> say(x, 0, 0, "j"));
        due(2, () -> x.rankOf(2));
    }

    private static void removingIsForAuthorAndOwner() {
        Inglenook x = roomOf(3);
        x.open(1);
        x.join(2, 1);
        for (int count = 0; count < 3; count++) {
            say(x, 2, 0, "x");
        }
        say(x, 0, 0, "y");
        say(x, 2, 1, "z");
        refuses(NOT_ALLOWED, () -> x.remove(1, 0));
        refuses(NOT_ALLOWED, () -> x.remove(0, 4));
        refuses(NOT_ALLOWED, () -> x.remove(2, 3));
        due(3, () -> x.remove(0, 0));
        due(0, () -> x.remove(1, 4));
        x.leave(0, 0);
        refuses(NOT_ALLOWED, () -> x.remove(0, 1));
        due(2, () -> x.remove(1, 1));
        due(1, () -> x.remove(0, 3));
        x.leave(1, 0);
        x.leave(2, 0);
        refuses(NOT_ALLOWED, () -> x.remove(1, 2));
        due(0, () -> x.remove(2, 2));
    }

    private static void removeRefuses() {
        Inglenook x = roomOf(2);
        say(x, 0, 0, "a");
        say(x, 1, 0, "b");
        for (int message : NO_NUMBERS) {
            refuses(NO_SUCH, () -> x.remove(0, message));
        }
        refuses(NO_SUCH, () -> x.remove(2, 0));
        refuses(NO_SUCH, () -> x.remove(-1, 0));
        x.remove(0, 0);
        refuses(NOT_ALLOWED, () -> x.remove(0, 0));
        refuses(NOT_ALLOWED, () -> x.remove(1, 0));
        x.remove(1, 1);
        refuses(NOT_ALLOWED, () -> x.remove(0, 1));
        refuses(NOT_ALLOWED, () -> x.remove(1, 1));
        due(2, () -> x.eventsOf('x'));
    }

    private static void removeCountsItsRoom() {
        Inglenook x = roomOf(2);
        x.open(0);
        say(x, 0, 0, "a");
        say(x, 0, 1, "b");
        say(x, 0, 0, "c");
        say(x, 1, 0, "d");
        due(2, () -> x.remove(0, 2));
        due(0, () -> x.remove(0, 1));
        due(1, () -> x.remove(0, 0));
        due(0, () -> x.remove(0, 3));
    }

    private static void wrongMessagesAreRefused() {
        Inglenook x = roomOf(2);
        say(x, 0, 0, "a");
        say(x, 1, 0, "b");
        for (int message : NO_NUMBERS) {
            refuses(NO_SUCH, () -> x.rankOf(message));
            refuses(NO_SUCH, () -> x.author(message));
            refuses(NO_SUCH, () -> x.roomOf(message));
            refuses(NO_SUCH, () -> x.length(message));
            refuses(NO_SUCH, () -> x.charAt(message, 0));
            refuses(NO_SUCH, () -> x.charAt(message, -1));
            refuses(NO_SUCH, () -> x.edits(message));
            refuses(NO_SUCH, () -> x.isRemoved(message));
        }
    }
}
