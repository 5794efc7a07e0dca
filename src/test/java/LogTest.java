/** Promises 50 and 51: which calls make events, of which kind. */
final class LogTest extends Checks {
    private static final String KINDS = "rojlsexmp";

    public static void main(String[] args) {
        eachKindIsCounted();
        otherCallsMakeNoEvents();
        refusedCallsMakeNoEvents();
        aLongLogIsWhole();
        wrongKindsAreRefused();
        end();
    }

    /** The counts of all kinds, in the order of the document. */
    private static String counts(Inglenook x) {
        StringBuilder list = new StringBuilder();
        for (int index = 0; index < KINDS.length(); index++) {
            list.append(index == 0 ? "" : " ").append(x.eventsOf(KINDS.charAt(index)));
        }
        return list.append(" of ").append(x.events()).toString();
    }

    private static void eachKindIsCounted() {
        Inglenook x = new Inglenook();
        due("0 0 0 0 0 0 0 0 0 of 0", () -> counts(x));
        x.register();
        x.register();
        due("2 0 0 0 0 0 0 0 0 of 2", () -> counts(x));
        x.open(0);
        due("2 1 0 0 0 0 0 0 0 of 3", () -> counts(x));
        x.join(1, 0);
        due("2 1 1 0 0 0 0 0 0 of 4", () -> counts(x));
        say(x, 0, 0, "a");
        due("2 1 1 0 1 0 0 0 0 of 5", () -> counts(x));
        reply(x, 1, 0, "b");
        due("2 1 1 0 2 0 0 0 0 of 6", () -> counts(x));
        edit(x, 0, 0, "c");
        due("2 1 1 0 2 1 0 0 0 of 7", () -> counts(x));
        x.read(0, 0);
        due("2 1 1 0 2 1 0 1 0 of 8", () -> counts(x));
        x.readTo(1, 0);
        due("2 1 1 0 2 1 0 2 0 of 9", () -> counts(x));
        x.remove(0, 1);
        due("2 1 1 0 2 1 1 2 0 of 10", () -> counts(x));
        x.pass(5);
        due("2 1 1 0 2 1 1 2 1 of 11", () -> counts(x));
        x.leave(1, 0);
        due("2 1 1 1 2 1 1 2 1 of 12", () -> counts(x));
    }

    private static void otherCallsMakeNoEvents() {
        Inglenook x = roomOf(2);
        say(x, 0, 0, "a");
        String before = counts(x);
        x.beat(0);
        x.setRefill(3);
        x.type(0, 'x');
        x.insert(0, 0, 'y');
        x.reverse(0);
        x.erase(0);
        x.users();
        x.rooms();
        x.messages();
        x.time();
        x.presence(0);
        x.tokens(0);
        x.tokenBits(0);
        x.draftLength(0);
        x.draftAt(0, 0);
        x.members(0);
        x.memberAt(0, 0);
        x.present(0);
        x.owner(0);
        x.countOf(0);
        x.messageAt(0, 0);
        x.rankOf(0);
        x.author(0);
        x.roomOf(0);
        x.length(0);
        x.charAt(0, 0);
        x.edits(0);
        x.isRemoved(0);
        x.depth(0);
        x.threadSize(0);
        x.threadAt(0, 0);
        x.mentions(0, 0);
        x.unread(0, 0);
        x.unreadByLog(0, 0);
        x.unreadMentions(0, 0);
        x.mentionsByLog(0, 0);
        x.seenShare(0);
        x.activity(0);
        x.activityBits(0);
        due(before, () -> counts(x));
    }

    private static void refusedCallsMakeNoEvents() {
        Inglenook x = server(6);
        for (int count = 0; count < 4; count++) {
            x.open(0);
        }
        x.join(1, 0);
        say(x, 0, 0, "a");
        String before = counts(x);
        refuses(BAD_STATE, () -> x.register());
        refuses(BAD_STATE, () -> x.open(0));
        refuses(BAD_STATE, () -> x.join(1, 0));
        refuses(NOT_ALLOWED, () -> x.leave(2, 0));
        refuses(BAD_STATE, () -> x.say(0, 0));
        refuses(BAD_STATE, () -> x.reply(0, 0));
        refuses(BAD_STATE, () -> x.edit(0, 0));
        refuses(NOT_ALLOWED, () -> x.remove(2, 0));
        refuses(NOT_ALLOWED, () -> x.read(2, 0));
        refuses(NOT_ALLOWED, () -> x.readTo(2, 0));
        refuses(BAD_ARGUMENT, () -> x.pass(0));
        due(before, () -> counts(x));
    }

    /** Both objects are at their 512th call at last. */
    private static void aLongLogIsWhole() {
        Inglenook x = roomOf(2);
        for (int calls = 4; calls < 507; calls++) {
            x.read(0, 0);
        }
        x.type(0, 'a');
        x.say(0, 0);
        due(508, () -> x.events());
        due(503, () -> x.eventsOf('m'));
        due(1, () -> x.unreadByLog(1, 0));
        Inglenook y = server(1);
        for (int calls = 1; calls < 511; calls++) {
            y.pass(1);
        }
        due(511, () -> y.events());
    }

    private static void wrongKindsAreRefused() {
        Inglenook x = roomOf(2);
        for (int code = 0; code < 512; code++) {
            char kind = (char) code;
            if (KINDS.indexOf(kind) < 0) {
                refuses(BAD_ARGUMENT, () -> x.eventsOf(kind));
            }
        }
        refuses(BAD_ARGUMENT, () -> x.eventsOf((char) 65535));
        refuses(BAD_ARGUMENT, () -> x.eventsOf((char) (256 + 'r')));
        due(2, () -> x.eventsOf('r'));
    }
}
