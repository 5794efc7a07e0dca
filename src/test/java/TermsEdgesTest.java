import java.util.List;

/** The sentences of "What it is" and of the terms, each with a test of its own. */
final class TermsEdgesTest extends Edges {
    private static final String KINDS = "rojlsexmp";

    public static void main(String[] args) {
        whatItIs();
        timeAndPresence();
        usersAndRooms();
        drafts();
        tokens();
        messages();
        threads();
        mentions();
        marks();
        log();
        exceptions();
        notPromised();
        noSentenceIsLeft("What it is", "Terms", "Time and presence", "Users and rooms", "Drafts", "Tokens", "Messages",
            "Threads", "Mentions", "Marks", "Log", "Exceptions", "Not promised");
        end();
    }

    private static String presences(Inglenook x) {
        StringBuilder list = new StringBuilder();
        for (int user = 0; user < x.users(); user++) {
            list.append(x.presence(user));
        }
        return list.toString();
    }

    /** The users whom a message mentions, as letters. */
    private static String mentioned(Inglenook x, int message) {
        StringBuilder letters = new StringBuilder();
        for (int user = 0; user < x.users(); user++) {
            letters.append(x.mentions(message, user) ? String.valueOf((char) ('a' + user)) : "");
        }
        return letters.toString();
    }

    private static void bothUnread(Inglenook x, int user, int room, int want) {
        due(want, () -> x.unread(user, room));
        due(want, () -> x.unreadByLog(user, room));
    }

    private static void bothRefuse(Inglenook x, int user, int room) {
        refuses(NOT_ALLOWED, () -> x.unread(user, room));
        refuses(NOT_ALLOWED, () -> x.unreadByLog(user, room));
        refuses(NOT_ALLOWED, () -> x.unreadMentions(user, room));
        refuses(NOT_ALLOWED, () -> x.mentionsByLog(user, room));
    }

    private static void whatItIs() {
        noEdge("What it is", "A chat room server: users join rooms, say, edit and remove messages, answer in threads,"
            + " mention each other, and read up to marks.");
        edge("What it is", "An object is used for at most 512 calls after it has been made; what later calls answer is"
            + " free.", () -> {
                Inglenook seconds = new Inglenook();
                for (int calls = 1; calls < 511; calls++) {
                    seconds.pass(600);
                }
                due(306600, () -> seconds.pass(600));
                due(306600, () -> seconds.time());
                Inglenook marks = roomOf(2);
                for (int calls = 5; calls < 509; calls++) {
                    marks.read(0, 0);
                }
                write(marks, 0, "@b");
                marks.say(0, 0);
                due(1, () -> marks.mentionsByLog(1, 0));
                Inglenook events = roomOf(2);
                for (int calls = 5; calls < 512; calls++) {
                    events.read(1, 0);
                }
                due(511, () -> events.events());
            });
        noEdge("Terms", "Presence follows from heartbeats, and how much a user can say is limited by a token bucket.");
        noEdge("Terms", "What is unread is found from the rooms, and by replaying a log of events.");
        noEdge("Terms", "Everyone reads one order.");
    }

    private static void timeAndPresence() {
        edge("Time and presence", "The time is a number of seconds, initially 0.", () -> {
            Inglenook x = new Inglenook();
            due(0, () -> x.time());
            x.pass(1);
            due(1, () -> x.time());
        });
        edge("Time and presence", "A user is seen when the user is registered, and whenever one of the calls beat, open,"
            + " join, leave, type, insert, erase, reverse, say, reply, edit, remove, read and readTo returns that has"
            + " this user as its first parameter.", TermsEdgesTest::whoIsSeen);
        edge("Time and presence", "The presence of a user is 'a', active, if at most 30 seconds have passed since the user"
            + " was last seen, 'i', idle, if more than 30 and at most 180 have passed, and 'o', offline, otherwise.", () -> {
                int[] seconds = {1, 29, 30, 31, 32, 179, 180, 181, 182, 600};
                String wants = "aaaiiiiooo";
                due('a', () -> server(1).presence(0));
                for (int index = 0; index < seconds.length; index++) {
                    Inglenook x = server(1);
                    x.pass(600);
                    x.beat(0);
                    x.pass(seconds[index]);
                    char want = wants.charAt(index);
                    due(want, () -> x.presence(0));
                }
            });
    }

    private static void whoIsSeen() {
        List<Act> acts = List.of(x -> x.beat(1), x -> x.open(1), x -> x.join(1, 1), x -> x.leave(1, 0), x -> x.type(1, 'x'),
            x -> x.insert(1, 0, 'x'), x -> x.erase(1), x -> x.reverse(1), x -> x.say(1, 0), x -> x.reply(1, 0));
        List<Act> more = List.of(x -> x.edit(1, 1), x -> x.remove(1, 1), x -> x.read(1, 0), x -> x.readTo(1, 0));
        for (Act act : acts) {
            letsBeSeen(act);
        }
        for (Act act : more) {
            letsBeSeen(act);
        }
        Inglenook x = town();
        x.register();
        due("iiiia", () -> presences(x));
        x.pass(30);
        due("iiiia", () -> presences(x));
        x.pass(1);
        due("iiiii", () -> presences(x));
        Inglenook refusing = town();
        refuses(BAD_STATE, () -> refusing.erase(2));
        refusing.pass(1);
        refusing.presence(2);
        refusing.mentions(0, 2);
        due("iiii", () -> presences(refusing));
    }

    private static void letsBeSeen(Act act) {
        Inglenook x = town();
        due("iiii", () -> presences(x));
        act.on(x);
        due("iaii", () -> presences(x));
        x.pass(30);
        due("iaii", () -> presences(x));
        x.pass(1);
        due("iiii", () -> presences(x));
    }

    private static void usersAndRooms() {
        edge("Users and rooms", "At most 6 users and at most 4 rooms have numbers from 0 in the order in which they were"
            + " registered and opened.", () -> {
                Inglenook x = new Inglenook();
                for (int count = 0; count < 6; count++) {
                    int user = count;
                    due(user, () -> x.register());
                }
                refuses(BAD_STATE, () -> x.register());
                for (int count = 0; count < 4; count++) {
                    int room = count;
                    due(room, () -> x.open(5 - room));
                    x.leave(5 - room, room);
                }
                refuses(BAD_STATE, () -> x.open(0));
                due(6, () -> x.users());
                due(4, () -> x.rooms());
            });
        edge("Users and rooms", "The letter of a user is 'a' for the user 0, 'b' for the user 1, and so on.", () -> {
            for (int code = 32; code <= 126; code++) {
                onlyTheLetterMentions((char) code);
            }
        });
        edge("Users and rooms", "The members of a room are kept in the order in which they joined; the user who opens a"
            + " room joins it by this.", () -> {
                Inglenook x = server(3);
                x.open(2);
                due("2", () -> members(x, 0));
                refuses(BAD_STATE, () -> x.join(2, 0));
                x.join(0, 0);
                x.join(1, 0);
                due("201", () -> members(x, 0));
                x.leave(2, 0);
                due("01", () -> members(x, 0));
                x.join(2, 0);
                due("012", () -> members(x, 0));
                x.leave(1, 0);
                due("02", () -> members(x, 0));
            });
        edge("Users and rooms", "The owner of a room is the first one of its members; a room without members has no"
            + " owner.", () -> {
                Inglenook x = roomOf(2);
                due(0, () -> x.owner(0));
                say(x, 1, 0, "a");
                x.leave(0, 0);
                due(1, () -> x.owner(0));
                refuses(NOT_ALLOWED, () -> x.remove(0, 0));
                x.leave(1, 0);
                refuses(BAD_STATE, () -> x.owner(0));
                refuses(NOT_ALLOWED, () -> x.remove(0, 0));
                x.join(0, 0);
                due(0, () -> x.owner(0));
                due(0, () -> x.remove(0, 0));
            });
    }

    private static void onlyTheLetterMentions(char sign) {
        Inglenook x = roomOf(6);
        write(x, 0, "@");
        x.type(0, sign);
        x.say(0, 0);
        due(sign >= 'b' && sign <= 'f' ? String.valueOf(sign) : "", () -> mentioned(x, 0));
        write(x, 5, "@");
        x.type(5, sign);
        x.say(5, 0);
        due(sign >= 'a' && sign <= 'e' ? String.valueOf(sign) : "", () -> mentioned(x, 1));
    }

    private static void drafts() {
        edge("Drafts", "Each user has a draft of at most 20 characters, initially empty.", () -> {
            Inglenook x = server(2);
            due("", () -> draft(x, 0));
            due("", () -> draft(x, 1));
            for (int count = 1; count <= 20; count++) {
                int length = count;
                due(length, () -> x.type(0, 'a'));
            }
            refuses(BAD_STATE, () -> x.type(0, 'a'));
            refuses(BAD_STATE, () -> x.insert(0, 0, 'a'));
            due(20, () -> x.draftLength(0));
            due(0, () -> x.draftLength(1));
        });
        edge("Drafts", "The characters have the codes 32 to 126.", () -> {
            Inglenook x = server(2);
            for (int code = 0; code < 400; code++) {
                char sign = (char) code;
                boolean taken = code >= 32 && code <= 126;
                Object want = taken ? (Object) 1 : BAD_ARGUMENT;
                due(want, () -> x.type(0, sign));
                if (taken) {
                    x.erase(0);
                }
            }
            refuses(BAD_ARGUMENT, () -> x.type(1, (char) 65535));
            refuses(BAD_ARGUMENT, () -> x.type(1, (char) 32768));
            refuses(BAD_ARGUMENT, () -> x.type(1, (char) (65535 - 31)));
        });
    }

    private static void tokens() {
        edge("Tokens", "Each user has tokens, a float from 0 to 4, initially 4.", () -> {
            Inglenook x = roomOf(2);
            x.setRefill(0);
            for (int count = 4; count > 0; count--) {
                float tokens = count;
                due(tokens, () -> x.tokens(0));
                say(x, 0, 0, "m");
            }
            due(0.0f, () -> x.tokens(0));
            write(x, 0, "m");
            refuses(BAD_STATE, () -> x.say(0, 0));
            refuses(BAD_STATE, () -> x.edit(0, 0));
            due(0.0f, () -> x.tokens(0));
            due(4.0f, () -> x.tokens(1));
        });
        edge("Tokens", "When seconds pass, the tokens increase by the number of seconds times the refill divided by 64, in"
            + " float arithmetic and not rounded to whole tokens, but not beyond 4.", () -> {
                int[] refills = {0, 1, 1, 1, 1, 1, 1, 63, 64, 64, 64, 64, 7, 7, 2, 64, 0};
                int[] seconds = {600, 1, 63, 64, 255, 256, 257, 1, 1, 3, 4, 5, 36, 37, 127, 600, 600};
                for (int index = 0; index < refills.length; index++) {
                    Inglenook x = poor(0);
                    x.setRefill(refills[index]);
                    x.pass(seconds[index]);
                    float sum = refills[index] * seconds[index] / 64.0f;
                    due(sum > 4.0f ? 4.0f : sum, () -> x.tokens(0));
                    due(4.0f, () -> x.tokens(1));
                }
                Inglenook nearlyFull = poor(255);
                due(3.984375f, () -> nearlyFull.tokens(0));
                nearlyFull.setRefill(1);
                nearlyFull.pass(1);
                due(4.0f, () -> nearlyFull.tokens(0));
                nearlyFull.pass(1);
                due(4.0f, () -> nearlyFull.tokens(0));
            });
        edge("Tokens", "The refill is 8 at first.", () -> {
            due(8, () -> new Inglenook().setRefill(8));
            Inglenook x = roomOf(1);
            say(x, 0, 0, "m");
            x.pass(1);
            due(3.125f, () -> x.tokens(0));
            x.pass(6);
            due(3.875f, () -> x.tokens(0));
            x.pass(1);
            due(4.0f, () -> x.tokens(0));
        });
        edge("Tokens", "Saying a message takes 1 token, editing one takes half a token.", () -> {
            Inglenook x = roomOf(2);
            say(x, 0, 0, "m");
            due(3.0f, () -> x.tokens(0));
            edit(x, 0, 0, "n");
            due(2.5f, () -> x.tokens(0));
            reply(x, 0, 0, "o");
            due(1.5f, () -> x.tokens(0));
            x.remove(0, 0);
            due(1.5f, () -> x.tokens(0));
            due(4.0f, () -> x.tokens(1));
        });
    }

    private static void messages() {
        edge("Messages", "At most 60 messages have numbers from 0 in the order in which they were said.", () -> {
            Inglenook x = filled(59);
            due(59, () -> x.messages());
            due(59, () -> x.say(0, 0));
            due(60, () -> x.messages());
            write(x, 0, "m");
            refuses(BAD_STATE, () -> x.say(0, 0));
            refuses(BAD_STATE, () -> x.reply(0, 59));
            for (int count = 0; count < 59; count++) {
                int message = count;
                due(message % 6, () -> x.author(message));
            }
            due(0, () -> x.author(59));
            x.remove(0, 59);
            refuses(BAD_STATE, () -> x.say(0, 0));
            due(60, () -> x.messages());
        });
        edge("Messages", "A message has an author, a room, a time and a text.", () -> {
            Inglenook x = roomOf(2);
            x.open(1);
            x.pass(20);
            say(x, 1, 1, "text");
            x.pass(3);
            due(1, () -> x.author(0));
            due(1, () -> x.roomOf(0));
            due(0.25, () -> x.activity(1));
            due("text", () -> text(x, 0));
        });
        edge("Messages", "It is said with the draft of its author, which is empty after that; so is the draft with which a"
            + " message is edited.", () -> {
                Inglenook x = roomOf(2);
                write(x, 1, "mine");
                say(x, 0, 0, "abcdefghijklmnopqrst");
                due("abcdefghijklmnopqrst", () -> text(x, 0));
                due("", () -> draft(x, 0));
                edit(x, 0, 0, "b");
                due("b", () -> text(x, 0));
                due("", () -> draft(x, 0));
                reply(x, 0, 0, "c");
                due("c", () -> text(x, 1));
                due("", () -> draft(x, 0));
                due("mine", () -> draft(x, 1));
            });
        edge("Messages", "The messages of a room have ranks from 0 in the order of their numbers.", () -> {
            Inglenook x = town();
            int[][] inRoom = {{0, 1, 2, 4}, {3}, {}};
            for (int count = 0; count < 3; count++) {
                int room = count;
                for (int rank = 0; rank < inRoom[room].length; rank++) {
                    int number = rank;
                    due(inRoom[room][number], () -> x.messageAt(room, number));
                    due(number, () -> x.rankOf(inRoom[room][number]));
                }
                refuses(NO_INDEX, () -> x.messageAt(room, inRoom[room].length));
            }
        });
        edge("Messages", "A message that is removed keeps its number, rank and author, but its text is empty.", () -> {
            Inglenook x = roomOf(2);
            say(x, 1, 0, "first");
            say(x, 1, 0, "second");
            say(x, 0, 0, "third");
            x.remove(0, 0);
            due(0, () -> x.messageAt(0, 0));
            due(0, () -> x.rankOf(0));
            due(1, () -> x.author(0));
            due("", () -> text(x, 0));
            due(1, () -> x.rankOf(1));
            due("second", () -> text(x, 1));
            due(3, () -> say(x, 0, 0, "fourth"));
            due(3, () -> x.rankOf(3));
        });
    }

    private static void threads() {
        edge("Threads", "A message can be said as a reply to another one, its parent, and is in the same room then.", () -> {
            Inglenook x = town();
            due(5, () -> x.reply(0, 3));
            due(3, () -> x.parent(5));
            due(1, () -> x.roomOf(5));
            due(2, () -> x.countOf(1));
            due(4, () -> x.countOf(0));
        });
        edge("Threads", "The depth of a message is 0 if it has no parent, and otherwise 1 more than that of its parent.", () -> {
            Inglenook x = roomOf(6);
            x.setRefill(64);
            say(x, 0, 0, "m");
            for (int message = 1; message < 60; message++) {
                if (message % 4 == 0) {
                    x.pass(4);
                }
                reply(x, message % 6, message - 1, "r");
            }
            for (int count = 0; count < 60; count++) {
                int message = count;
                due(message, () -> x.depth(message));
            }
            Inglenook two = roomOf(1);
            say(two, 0, 0, "m");
            say(two, 0, 0, "m");
            due(0, () -> two.depth(1));
            reply(two, 0, 1, "r");
            reply(two, 0, 1, "r");
            due(1, () -> two.depth(2));
            due(1, () -> two.depth(3));
        });
        edge("Threads", "The thread of a message consists of the message itself and then, for each of its replies in the"
            + " order of their numbers, of the thread of this reply.", () -> {
                Inglenook x = roomOf(2);
                say(x, 0, 0, "0");
                due("0", () -> thread(x, 0));
                reply(x, 0, 0, "1");
                reply(x, 1, 0, "2");
                say(x, 1, 0, "3");
                reply(x, 0, 1, "4");
                reply(x, 0, 2, "5");
                reply(x, 1, 1, "6");
                due("0 1 4 6 2 5", () -> thread(x, 0));
                due("1 4 6", () -> thread(x, 1));
                due("2 5", () -> thread(x, 2));
                due("3", () -> thread(x, 3));
                due("6", () -> thread(x, 6));
            });
    }

    private static void mentions() {
        edge("Mentions", "A message mentions a user if its text has the character '@' directly followed by the letter of the"
            + " user, the user was a member of its room when the text was said or last edited, and is not its author.", () -> {
                whereTheSignStands();
                whoIsAMemberThen();
                theAuthorIsLeftOut();
            });
    }

    private static void whereTheSignStands() {
        String[] texts = {
            "@b", "..................@b", "@", "b", "b@", "...................@", "@ b", "@@b", "@.b@", "@bb", "@bc", "@cb",
            "@b@c", "@b@b", "b@c", "@B", " @b "
        };
        String[] wants = {"b", "b", "", "", "", "", "", "b", "", "b", "b", "c", "bc", "b", "c", "", "b"};
        for (int index = 0; index < texts.length; index++) {
            Inglenook x = roomOf(3);
            say(x, 0, 0, texts[index]);
            due(wants[index], () -> mentioned(x, 0));
        }
    }

    private static void whoIsAMemberThen() {
        Inglenook x = roomOf(4);
        x.leave(3, 0);
        x.open(3);
        say(x, 0, 0, "@b@c@d@e");
        due("bc", () -> mentioned(x, 0));
        x.register();
        x.leave(1, 0);
        x.join(3, 0);
        x.join(4, 0);
        due("bc", () -> mentioned(x, 0));
        edit(x, 0, 0, "@b@c@d@e");
        due("cde", () -> mentioned(x, 0));
        x.join(1, 0);
        x.leave(4, 0);
        due("cde", () -> mentioned(x, 0));
        edit(x, 0, 0, "c@");
        due("", () -> mentioned(x, 0));
        x.leave(0, 0);
        write(x, 2, "@a@b@c@d@e");
        x.say(2, 0);
        due("bd", () -> mentioned(x, 1));
        x.join(0, 0);
        due("bd", () -> mentioned(x, 1));
    }

    private static void theAuthorIsLeftOut() {
        Inglenook x = roomOf(2);
        say(x, 1, 0, "@a@b");
        due("a", () -> mentioned(x, 0));
        edit(x, 1, 0, "@b@a@b");
        due("a", () -> mentioned(x, 0));
        say(x, 0, 0, "@a");
        due("", () -> mentioned(x, 1));
    }

    private static void marks() {
        edge("Marks", "A member of a room has a mark: the number of messages of the room, from its first one on, that the"
            + " member has read.", () -> {
                Inglenook x = roomOf(2);
                for (int count = 0; count < 4; count++) {
                    say(x, 0, 0, "m");
                }
                bothUnread(x, 1, 0, 4);
                due(0.0f, () -> x.seenShare(0));
                for (int count = 0; count < 4; count++) {
                    int message = count;
                    x.readTo(1, message);
                    bothUnread(x, 1, 0, 3 - message);
                    due(1.0f, () -> x.seenShare(message));
                    due(message == 3 ? (Object) NO_SUCH : 0.0f, () -> x.seenShare(message + 1));
                }
            });
        edge("Marks", "It is the number of all of them when the user joins.", () -> {
            Inglenook x = roomOf(3);
            x.leave(1, 0);
            say(x, 0, 0, "@b@c");
            say(x, 2, 0, "@b");
            x.join(1, 0);
            bothUnread(x, 1, 0, 0);
            due(0.5f, () -> x.seenShare(0));
            due(0.5f, () -> x.seenShare(1));
            say(x, 0, 0, "m");
            bothUnread(x, 1, 0, 1);
            due(0.0f, () -> x.seenShare(2));
            x.remove(0, 1);
            x.register();
            x.join(3, 0);
            due(1.0f / 3.0f, () -> x.seenShare(2));
            bothUnread(x, 3, 0, 0);
        });
        edge("Marks", "A message of the room is unread for a member if its rank is not less than the mark, it is not removed,"
            + " and the member is not its author.", () -> {
                Inglenook x = roomOf(3);
                say(x, 0, 0, "m");
                say(x, 1, 0, "m");
                say(x, 0, 0, "m");
                bothUnread(x, 2, 0, 3);
                bothUnread(x, 1, 0, 2);
                bothUnread(x, 0, 0, 1);
                x.readTo(2, 1);
                bothUnread(x, 2, 0, 1);
                x.remove(0, 2);
                bothUnread(x, 2, 0, 0);
                bothUnread(x, 1, 0, 1);
                x.readTo(1, 0);
                bothUnread(x, 1, 0, 0);
                bothUnread(x, 0, 0, 1);
            });
        edge("Marks", "Who leaves a room has no mark any more.", () -> {
            Inglenook x = roomOf(3);
            say(x, 0, 0, "m");
            x.read(1, 0);
            due(0.5f, () -> x.seenShare(0));
            x.leave(1, 0);
            bothRefuse(x, 1, 0);
            due(0.0f, () -> x.seenShare(0));
            x.readTo(2, 0);
            x.leave(2, 0);
            bothRefuse(x, 2, 0);
            refuses(NO_SHARE, () -> x.seenShare(0));
            say(x, 0, 0, "m");
            x.join(2, 0);
            bothUnread(x, 2, 0, 0);
        });
    }

    /** The counts of all kinds in the order of the document. */
    private static String counts(Inglenook x) {
        StringBuilder list = new StringBuilder();
        for (char kind : KINDS.toCharArray()) {
            list.append(x.eventsOf(kind)).append(' ');
        }
        return list.append("of ").append(x.events()).toString();
    }

    private static void logs(char kind, Act act) {
        Inglenook x = town();
        int[] before = new int[KINDS.length()];
        for (int index = 0; index < before.length; index++) {
            before[index] = x.eventsOf(KINDS.charAt(index));
        }
        int all = x.events();
        act.on(x);
        for (int index = 0; index < before.length; index++) {
            char counted = KINDS.charAt(index);
            due(before[index] + (counted == kind ? 1 : 0), () -> x.eventsOf(counted));
        }
        due(all + (KINDS.indexOf(kind) < 0 ? 0 : 1), () -> x.events());
    }

    private static void log() {
        edge("Log", "The log has an event for each call that returned, of these: 'r' register, 'o' open, 'j' join, 'l' leave,"
            + " 's' say and reply, 'e' edit, 'x' remove, 'm' read and readTo, 'p' pass.", () -> {
                due("0 0 0 0 0 0 0 0 0 of 0", () -> counts(new Inglenook()));
                due("4 3 3 1 5 0 1 2 1 of 20", () -> counts(town()));
                logs('r', x -> x.register());
                logs('o', x -> x.open(0));
                logs('j', x -> x.join(3, 0));
                logs('l', x -> x.leave(0, 0));
                logs('s', x -> x.say(0, 0));
                logs('s', x -> x.reply(0, 0));
                logs('e', x -> x.edit(0, 0));
                logs('x', x -> x.remove(0, 0));
                logs('m', x -> x.read(0, 0));
                logs('m', x -> x.readTo(0, 0));
                logs('p', x -> x.pass(1));
                logs('-', x -> x.beat(0));
                logs('-', x -> x.setRefill(1));
                logs('-', x -> x.type(0, 'x'));
                logs('-', x -> x.insert(0, 0, 'x'));
                logs('-', x -> x.erase(0));
                logs('-', x -> x.reverse(0));
                logs('-', x -> x.unreadByLog(0, 0));
                logs('-', x -> x.mentionsByLog(0, 0));
                logs('-', x -> outcome(() -> x.pass(0)));
                logs('-', x -> outcome(() -> x.join(0, 0)));
                logs('-', x -> outcome(() -> x.say(2, 0)));
                logs('-', x -> outcome(() -> x.read(3, 0)));
            });
    }

    private static void exceptions() {
        edge("Exceptions", "A method that throws an exception changes nothing.", () -> {
            refused(BAD_STATE, Edges::wholeTown, x -> x.register());
            refused(NO_SUCH, Edges::town, x -> x.beat(4));
            refused(BAD_ARGUMENT, Edges::town, x -> x.pass(601));
            refused(BAD_ARGUMENT, Edges::town, x -> x.setRefill(65));
            refused(BAD_STATE, Edges::wholeTown, x -> x.open(1));
            refused(BAD_STATE, Edges::town, x -> x.join(1, 0));
            refused(NOT_ALLOWED, Edges::town, x -> x.leave(1, 1));
            refused(BAD_STATE, () -> drafted(20), x -> x.type(0, 'x'));
            refused(BAD_STATE, () -> drafted(20), x -> x.insert(0, 0, 'x'));
            refused(BAD_STATE, () -> drafted(0), x -> x.erase(0));
            refused(NO_SUCH, Edges::town, x -> x.reverse(4));
            refused(BAD_STATE, () -> poor(63), x -> x.say(0, 0));
            refused(BAD_STATE, () -> poor(63), x -> x.reply(0, 0));
            refused(BAD_STATE, () -> poor(31), x -> x.edit(0, 0));
            refused(NOT_ALLOWED, Edges::town, x -> x.remove(1, 0));
            refused(NOT_ALLOWED, Edges::town, x -> x.read(3, 0));
            refused(NOT_ALLOWED, Edges::town, x -> x.readTo(3, 0));
        });
        edge("Exceptions", "If several exceptions apply, the one that is listed first is thrown.", () -> {
            changesRefuseInTheirOrder();
            answersRefuseInTheirOrder();
        });
    }

    private static void changesRefuseInTheirOrder() {
        char bad = (char) 127;
        refused(NO_SUCH, Edges::wholeTown, x -> x.open(6));
        refused(NO_SUCH, () -> drafted(20), x -> x.type(1, bad));
        refused(BAD_ARGUMENT, () -> drafted(20), x -> x.type(0, bad));
        refused(NO_SUCH, () -> drafted(20), x -> x.insert(1, 21, bad));
        refused(NO_INDEX, () -> drafted(20), x -> x.insert(0, 21, bad));
        refused(NO_INDEX, () -> drafted(20), x -> x.insert(0, -1, bad));
        refused(NO_INDEX, () -> drafted(20), x -> x.insert(0, 21, 'x'));
        refused(NO_INDEX, () -> drafted(19), x -> x.insert(0, 20, bad));
        refused(BAD_ARGUMENT, () -> drafted(20), x -> x.insert(0, 20, bad));
        refused(NO_SUCH, Edges::town, x -> x.say(2, 3));
        refused(NOT_ALLOWED, Edges::town, x -> x.say(2, 1));
        refused(NOT_ALLOWED, () -> without(0, poor(63)), x -> x.say(0, 0));
        refused(NOT_ALLOWED, () -> without(0, filled(60)), x -> x.say(0, 0));
        refused(NO_SUCH, Edges::town, x -> x.reply(2, 5));
        refused(NOT_ALLOWED, Edges::town, x -> x.reply(2, 3));
        refused(NOT_ALLOWED, Edges::town, x -> x.reply(2, 4));
        refused(NOT_ALLOWED, () -> without(0, poor(63)), x -> x.reply(0, 0));
        refused(NOT_ALLOWED, () -> removed(0, poor(63)), x -> x.reply(0, 0));
        refused(NOT_ALLOWED, () -> removed(0, filled(60)), x -> x.reply(0, 0));
        refused(NO_SUCH, Edges::town, x -> x.edit(2, 5));
        refused(NOT_ALLOWED, Edges::town, x -> x.edit(2, 0));
        refused(NOT_ALLOWED, () -> removed(0, poor(31)), x -> x.edit(0, 0));
        refused(NOT_ALLOWED, () -> drained(poor(0)), x -> x.edit(0, 0));
        refused(NO_SUCH, Edges::town, x -> x.readTo(4, 5));
        refused(NO_SUCH, Edges::town, x -> x.read(3, 3));
    }

    private static void answersRefuseInTheirOrder() {
        refused(NO_SUCH, Edges::town, x -> x.draftAt(4, 99));
        refused(NO_SUCH, Edges::town, x -> x.memberAt(3, 99));
        refused(NO_SUCH, Edges::town, x -> x.messageAt(3, 99));
        refused(NO_SUCH, Edges::town, x -> x.charAt(5, 99));
        refused(NO_SUCH, Edges::town, x -> x.threadAt(5, 99));
        refused(NO_SUCH, Edges::town, x -> x.unread(2, 3));
        refused(NO_SUCH, Edges::town, x -> x.unreadByLog(2, 3));
        refused(NO_SUCH, Edges::town, x -> x.unreadMentions(2, 3));
        refused(NO_SUCH, Edges::town, x -> x.mentionsByLog(2, 3));
        refused(NO_SUCH, () -> server(1), x -> x.owner(0));
        refused(NO_SUCH, () -> roomOf(1), x -> x.parent(0));
        refused(NO_SUCH, () -> roomOf(1), x -> x.seenShare(0));
    }

    private static Inglenook without(int user, Inglenook x) {
        x.leave(user, 0);
        x.pass(1);
        return x;
    }

    private static Inglenook removed(int message, Inglenook x) {
        x.remove(0, message);
        x.pass(1);
        return x;
    }

    /** The user 0 has neither a draft nor tokens, and more than 60 seconds have passed. */
    private static Inglenook drained(Inglenook x) {
        for (int count = 0; count < 5; count++) {
            x.erase(0);
        }
        x.pass(60);
        return x;
    }

    private static void notPromised() {
        noEdge("Not promised", "How the state is held inside the object is free, as are the speed of each call, the text of"
            + " toString and the behaviour of equals and hashCode.");
        noEdge("Not promised", "Use of one object from several threads at once is not promised to be safe.");
        edge("Not promised", "Nothing is promised beyond the answers and state changes described above, and nothing about an"
            + " object after its 512th call.", TermsEdgesTest::answersChangeNothing);
    }

    /** Each call that only answers, about the user 1, the room 0 and message 1. */
    private static void answersChangeNothing() {
        Act[] acts = {
            x -> x.users(), x -> x.rooms(), x -> x.messages(), x -> x.time(), x -> x.presence(1), x -> x.tokens(1),
            x -> x.tokenBits(1), x -> x.draftLength(1), x -> x.draftAt(1, 1), x -> x.members(0), x -> x.memberAt(0, 1),
            x -> x.present(0), x -> x.owner(0), x -> x.countOf(0), x -> x.messageAt(0, 1), x -> x.rankOf(1),
            x -> x.author(1), x -> x.roomOf(1), x -> x.length(1), x -> x.charAt(1, 1), x -> x.edits(1), x -> x.isRemoved(1),
            x -> x.parent(2), x -> x.depth(1), x -> x.threadSize(1), x -> x.threadAt(1, 0), x -> x.mentions(0, 1),
            x -> x.unread(1, 0), x -> x.unreadByLog(1, 0), x -> x.unreadMentions(1, 0), x -> x.mentionsByLog(1, 0),
            x -> x.events(), x -> x.eventsOf('s'), x -> x.seenShare(1), x -> x.activity(1), x -> x.activityBits(1)
        };
        for (Act act : acts) {
            due(false, () -> act.on(town()) instanceof Class);
            changesNothing(Edges::town, act);
        }
    }
}
