import java.util.ArrayList;
import java.util.List;

/**
 * All that can be seen of a server, now and after some more calls, in parts: each part is a list of calls for a
 * server of its own, short enough to stay within the 512 calls.
 */
final class Witness {
    private static final int CALLS_OF_A_PART = 250;
    private static final String KINDS = "rojlsexmp";

    static final class Probe {
        final String name;
        final Edges.Act act;

        Probe(String name, Edges.Act act) {
            this.name = name;
            this.act = act;
        }
    }

    private final int users;
    private final int rooms;
    private final int messages;
    private final List<List<Probe>> parts = new ArrayList<>();
    private List<Probe> part = new ArrayList<>();

    Witness(Inglenook x) {
        users = x.users();
        rooms = x.rooms();
        messages = x.messages();
        seeServer();
        for (int user = 0; user <= users; user++) {
            seeUser(user);
        }
        for (int room = 0; room <= rooms; room++) {
            seeRoom(room);
        }
        for (int message = 0; message <= messages; message++) {
            seeMessage(message);
        }
        close();
        seeSecondsPass();
        close();
        seeMarksMove();
        close();
        seeMoreCome();
        close();
    }

    List<List<Probe>> parts() {
        return parts;
    }

    private void close() {
        parts.add(part);
        part = new ArrayList<>();
    }

    private void see(String name, Edges.Act act) {
        if (part.size() == CALLS_OF_A_PART) {
            close();
        }
        part.add(new Probe(name, act));
    }

    private void seeServer() {
        see("users", x -> x.users());
        see("rooms", x -> x.rooms());
        see("messages", x -> x.messages());
        see("time", x -> x.time());
        see("events", x -> x.events());
        for (char kind : KINDS.toCharArray()) {
            see("eventsOf " + kind, x -> x.eventsOf(kind));
        }
    }

    private void seeUser(int user) {
        see("presence " + user, x -> x.presence(user));
        see("tokens " + user, x -> x.tokens(user));
        see("tokenBits " + user, x -> x.tokenBits(user));
        see("activity " + user, x -> x.activity(user));
        see("activityBits " + user, x -> x.activityBits(user));
        see("draftLength " + user, x -> x.draftLength(user));
        for (int count = 0; count <= 20; count++) {
            int index = count;
            see("draftAt " + user + " " + index, x -> x.draftAt(user, index));
        }
        for (int count = 0; count <= rooms; count++) {
            int room = count;
            see("unread " + user + " " + room, x -> x.unread(user, room));
            see("unreadByLog " + user + " " + room, x -> x.unreadByLog(user, room));
            see("unreadMentions " + user + " " + room, x -> x.unreadMentions(user, room));
            see("mentionsByLog " + user + " " + room, x -> x.mentionsByLog(user, room));
        }
    }

    private void seeRoom(int room) {
        see("members " + room, x -> x.members(room));
        see("present " + room, x -> x.present(room));
        see("owner " + room, x -> x.owner(room));
        see("countOf " + room, x -> x.countOf(room));
        for (int count = 0; count <= users; count++) {
            int rank = count;
            see("memberAt " + room + " " + rank, x -> x.memberAt(room, rank));
        }
        for (int count = 0; count <= messages; count++) {
            int rank = count;
            see("messageAt " + room + " " + rank, x -> x.messageAt(room, rank));
        }
    }

    private void seeMessage(int message) {
        see("author " + message, x -> x.author(message));
        see("roomOf " + message, x -> x.roomOf(message));
        see("rankOf " + message, x -> x.rankOf(message));
        see("length " + message, x -> x.length(message));
        see("edits " + message, x -> x.edits(message));
        see("isRemoved " + message, x -> x.isRemoved(message));
        see("parent " + message, x -> x.parent(message));
        see("depth " + message, x -> x.depth(message));
        see("seenShare " + message, x -> x.seenShare(message));
        see("threadSize " + message, x -> x.threadSize(message));
        for (int count = 0; count <= 20; count++) {
            int index = count;
            see("charAt " + message + " " + index, x -> x.charAt(message, index));
        }
        for (int count = 0; count <= messages; count++) {
            int rank = count;
            see("threadAt " + message + " " + rank, x -> x.threadAt(message, rank));
        }
        for (int count = 0; count <= users; count++) {
            int user = count;
            see("mentions " + message + " " + user, x -> x.mentions(message, user));
        }
    }

    /** When each user was seen shows in the second at which the presence changes. */
    private void seeSecondsPass() {
        see("setRefill 3", x -> x.setRefill(3));
        for (int seconds = 1; seconds <= 31; seconds++) {
            see("pass 1", x -> x.pass(1));
            for (int count = 0; count < users; count++) {
                int user = count;
                see("after " + seconds + " presence " + user, x -> x.presence(user));
            }
        }
        for (int count = 0; count < users; count++) {
            int user = count;
            see("later tokens " + user, x -> x.tokens(user));
            see("later activity " + user, x -> x.activity(user));
        }
    }

    /** With the mark behind its first message a room tells of all the others, by the log too. */
    private void seeMarksMove() {
        for (int count = 0; count < users * Math.min(messages, 5); count++) {
            int user = count % users;
            int message = count / users;
            String names = user + " " + message;
            see("readTo " + names, x -> x.readTo(user, message));
            see("unreadByLog " + names, x -> x.unreadByLog(user, x.roomOf(message)));
            see("mentionsByLog " + names, x -> x.mentionsByLog(user, x.roomOf(message)));
        }
    }

    private void seeMoreCome() {
        see("register", x -> x.register());
        see("open", x -> x.open(0));
        for (int count = 0; count < users; count++) {
            int user = count;
            see("type " + user, x -> x.type(user, 'x'));
            see("reverse " + user, x -> x.reverse(user));
            see("erase " + user, x -> x.erase(user));
            for (int number = 0; number < rooms; number++) {
                int room = number;
                see("join " + user + " " + room, x -> x.join(user, room));
                see("say " + user + " " + room, x -> x.say(user, room));
                see("type again " + user, x -> x.type(user, 'y'));
                see("leave " + user + " " + room, x -> x.leave(user, room));
            }
        }
        see("later events", x -> x.events());
    }
}
