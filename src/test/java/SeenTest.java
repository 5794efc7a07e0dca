/** Which calls let a user be seen: those of the document, only for their first parameter, only if they return. */
final class SeenTest extends Checks {
    private interface Step {
        Object of(Inglenook x);
    }

    public static void main(String[] args) {
        seeing("beat", x -> x.beat(1));
        seeing("open", x -> x.open(1));
        seeing("join", x -> x.join(1, 1));
        seeing("leave", x -> x.leave(1, 0));
        seeing("type", x -> x.type(1, 'x'));
        seeing("insert", x -> x.insert(1, 0, 'x'));
        seeing("erase", x -> x.erase(1));
        seeing("reverse", x -> x.reverse(1));
        seeing("say", x -> x.say(1, 0));
        seeing("reply", x -> x.reply(1, 0));
        seeing("edit", x -> x.edit(1, 1));
        seeing("remove", x -> x.remove(1, 1));
        seeing("read", x -> x.read(1, 0));
        seeing("readTo", x -> x.readTo(1, 0));
        callsThatDoNotSee();
        refusedCallsDoNotSee();
        end();
    }

    /** Users 0 to 3 were last seen 50 seconds ago; 0, 1 and 3 are members of room 0, and 1 has a draft. */
    private static Inglenook quiet() {
        Inglenook x = server(4);
        x.open(0);
        x.join(1, 0);
        x.join(3, 0);
        x.open(0);
        say(x, 0, 0, "@b");
        say(x, 1, 0, "b");
        say(x, 1, 0, "c");
        x.remove(1, 2);
        write(x, 1, "draft");
        x.pass(50);
        return x;
    }

    private static String presences(Inglenook x) {
        StringBuilder list = new StringBuilder();
        for (int user = 0; user < x.users(); user++) {
            list.append(x.presence(user));
        }
        return list.toString();
    }

    private static void seeing(String name, Step step) {
        Inglenook x = quiet();
        due("iiii", () -> presences(x));
        step.of(x);
        due(name + " iaii", () -> name + " " + presences(x));
        x.pass(30);
        due(name + " iaii", () -> name + " " + presences(x));
        x.pass(1);
        due(name + " iiii", () -> name + " " + presences(x));
    }

    private static void callsThatDoNotSee() {
        Inglenook x = quiet();
        x.setRefill(1);
        x.pass(1);
        x.presence(1);
        x.tokens(1);
        x.tokenBits(1);
        x.draftLength(1);
        x.draftAt(1, 0);
        x.members(1);
        x.memberAt(0, 1);
        x.present(1);
        x.owner(1);
        x.countOf(1);
        x.messageAt(0, 1);
        x.rankOf(1);
        x.author(1);
        x.roomOf(1);
        x.length(1);
        x.charAt(1, 0);
        x.edits(1);
        x.isRemoved(1);
        x.depth(1);
        x.threadSize(1);
        x.threadAt(1, 0);
        x.mentions(0, 1);
        x.unread(1, 0);
        x.unreadByLog(1, 0);
        x.unreadMentions(1, 0);
        x.mentionsByLog(1, 0);
        x.seenShare(1);
        x.activity(1);
        x.activityBits(1);
        due("iiii", () -> presences(x));
        x.register();
        due("iiiia", () -> presences(x));
    }

    private static void refusedCallsDoNotSee() {
        Inglenook x = quiet();
        refuses(NO_SUCH, () -> x.join(1, 9));
        refuses(BAD_STATE, () -> x.join(1, 0));
        refuses(NOT_ALLOWED, () -> x.leave(1, 1));
        refuses(BAD_ARGUMENT, () -> x.type(1, (char) 31));
        refuses(NO_INDEX, () -> x.insert(1, 6, 'x'));
        refuses(BAD_ARGUMENT, () -> x.insert(1, 5, (char) 127));
        refuses(BAD_STATE, () -> x.erase(0));
        refuses(NOT_ALLOWED, () -> x.say(1, 1));
        refuses(BAD_STATE, () -> x.say(0, 0));
        refuses(NOT_ALLOWED, () -> x.reply(1, 2));
        refuses(BAD_STATE, () -> x.reply(3, 0));
        refuses(NOT_ALLOWED, () -> x.edit(1, 0));
        refuses(BAD_STATE, () -> x.edit(0, 0));
        refuses(NOT_ALLOWED, () -> x.remove(1, 0));
        refuses(NOT_ALLOWED, () -> x.remove(1, 2));
        refuses(NOT_ALLOWED, () -> x.read(1, 1));
        refuses(NOT_ALLOWED, () -> x.readTo(2, 0));
        due("iiii", () -> presences(x));
    }
}
