/** The sentences of promises 19 to 54, the calls that only answer, each with a test of its own. */
final class AnswersEdgesTest extends Edges {
    public static void main(String[] args) {
        counts();
        presence();
        tokens();
        tokenBits();
        drafts();
        members();
        present();
        owner();
        messagesOfRooms();
        messages();
        texts();
        editsAndRemovals();
        parents();
        threads();
        mentions();
        unread();
        unreadMentions();
        events();
        seenShare();
        activity();
        activityBits();
        promisesAreComplete(19, 54);
        end();
    }

    private static void counts() {
        edge("Promise 19", "Returns the number of users.", () -> {
            due(0, () -> new Inglenook().users());
            due(1, () -> server(1).users());
            due(6, () -> server(6).users());
            Inglenook full = server(6);
            refuses(BAD_STATE, () -> full.register());
            due(6, () -> full.users());
        });
        edge("Promise 20", "Returns the number of rooms.", () -> {
            due(0, () -> server(6).rooms());
            due(1, () -> roomOf(1).rooms());
            due(3, () -> town().rooms());
            due(4, () -> wholeTown().rooms());
            Inglenook full = wholeTown();
            refuses(BAD_STATE, () -> full.open(0));
            due(4, () -> full.rooms());
        });
        edge("Promise 21", "Returns the number of messages, removed ones included.", "Returns the number of messages.", () -> {
            due(0, () -> roomOf(1).messages());
            due(5, () -> town().messages());
            due(59, () -> filled(59).messages());
            due(60, () -> filled(60).messages());
            Inglenook removing = filled(60);
            removing.remove(0, 0);
            removing.remove(0, 59);
            due(60, () -> removing.messages());
        });
        edge("Promise 22", "Returns the time.", () -> {
            due(0, () -> new Inglenook().time());
            due(50, () -> town().time());
            Inglenook x = new Inglenook();
            x.pass(600);
            x.pass(1);
            due(601, () -> x.time());
            refuses(BAD_ARGUMENT, () -> x.pass(601));
            due(601, () -> x.time());
        });
    }

    private static void presence() {
        edge("Promise 23", "Returns the presence of a user.", () -> {
            Inglenook x = town();
            x.beat(1);
            due('i', () -> x.presence(0));
            due('a', () -> x.presence(1));
            x.pass(131);
            due('o', () -> x.presence(0));
            due('i', () -> x.presence(1));
        });
        edge("Promise 23", "Returns 'a', 'i' or 'o'.", () -> {
            for (int seconds = 1; seconds < 200; seconds++) {
                Inglenook x = server(1);
                x.pass(seconds);
                char want = seconds <= 30 ? 'a' : seconds <= 180 ? 'i' : 'o';
                due(want, () -> x.presence(0));
            }
        });
        edge("Promise 23", NO_SUCH_USER, () -> noSuchUser((x, user) -> x.presence(user)));
    }

    private static void tokens() {
        edge("Promise 24", "Returns the tokens of a user.", "Returns the tokens.", () -> {
            due(4.0f, () -> server(1).tokens(0));
            due(3.0f, () -> town().tokens(0));
            due(2.0f, () -> town().tokens(1));
            due(0.0f, () -> poor(0).tokens(0));
            due(4.0f, () -> poor(0).tokens(1));
            due(0.015625f, () -> poor(1).tokens(0));
            due(3.984375f, () -> poor(255).tokens(0));
            due(4.0f, () -> poor(256).tokens(0));
            due(4.0f, () -> poor(257).tokens(0));
        });
        edge("Promise 24", NO_SUCH_USER, () -> noSuchUser((x, user) -> x.tokens(user)));
    }

    private static void tokenBits() {
        edge("Promise 25", "Returns the tokens of a user as the bits of the float, as by Float.floatToIntBits.",
            "Returns the bits.", () -> {
                due(0, () -> poor(0).tokenBits(0));
                due(0x40800000, () -> poor(0).tokenBits(1));
                due(0x3c800000, () -> poor(1).tokenBits(0));
                for (int sixtyFourths = 0; sixtyFourths <= 257; sixtyFourths++) {
                    Inglenook x = poor(sixtyFourths);
                    float tokens = Math.min(4.0f, sixtyFourths / 64.0f);
                    due(Float.floatToIntBits(tokens), () -> x.tokenBits(0));
                }
            });
        edge("Promise 25", NO_SUCH_USER, () -> noSuchUser((x, user) -> x.tokenBits(user)));
    }

    private static void drafts() {
        edge("Promise 26", "Returns the length of the draft of a user.", "Returns the length.", () -> {
            for (int count = 0; count <= 20; count++) {
                int length = count;
                due(length, () -> drafted(length).draftLength(0));
            }
            due(4, () -> town().draftLength(0));
            due(0, () -> town().draftLength(2));
        });
        edge("Promise 26", NO_SUCH_USER, () -> noSuchUser((x, user) -> x.draftLength(user)));
        edge("Promise 27", "Returns a character of the draft of a user.", "Returns the character.", () -> {
            Inglenook x = drafted(20);
            for (int count = 0; count < 20; count++) {
                int index = count;
                due((char) ('a' + index), () -> x.draftAt(0, index));
            }
            due('z', () -> town().draftAt(0, 0));
            due('o', () -> town().draftAt(1, 0));
            due('e', () -> town().draftAt(3, 4));
        });
        edge("Promise 27", NO_SUCH_USER, () -> noSuchUser((x, user) -> x.draftAt(user, 0)));
        edge("Promise 27", NO_SUCH_INDEX, () -> {
            for (int length : new int[] {0, 1, 19, 20}) {
                noSuchIndex(length, () -> drafted(length), (x, index) -> x.draftAt(0, index));
            }
            Inglenook x = drafted(20);
            x.erase(0);
            refuses(NO_INDEX, () -> x.draftAt(0, 19));
            x.say(0, 0);
            refuses(NO_INDEX, () -> x.draftAt(0, 0));
        });
    }

    private static void members() {
        edge("Promise 28", "Returns the number of members of a room.", "Returns the number of members.", () -> {
            due(3, () -> town().members(0));
            due(2, () -> town().members(1));
            due(0, () -> town().members(2));
            due(1, () -> wholeTown().members(3));
            due(6, () -> roomOf(6).members(0));
        });
        edge("Promise 28", NO_SUCH_ROOM, () -> noSuchRoom((x, room) -> x.members(room)));
        edge("Promise 29", "Returns a member of a room.", "Returns the user.", () -> {
            due("012", () -> members(town(), 0));
            due("30", () -> members(town(), 1));
            due("012345", () -> members(roomOf(6), 0));
        });
        edge("Promise 29", "- `rank`: the rank by the order of joining, counted from 0", () -> {
            Inglenook x = server(6);
            x.open(5);
            for (int user = 4; user >= 0; user--) {
                x.join(user, 0);
            }
            due(5, () -> x.memberAt(0, 0));
            due(0, () -> x.memberAt(0, 5));
            x.leave(5, 0);
            x.join(5, 0);
            due(4, () -> x.memberAt(0, 0));
            due(5, () -> x.memberAt(0, 5));
        });
        edge("Promise 29", NO_SUCH_ROOM, () -> noSuchRoom((x, room) -> x.memberAt(room, 0)));
        edge("Promise 29", NO_SUCH_RANK, () -> {
            noSuchIndex(3, Edges::town, (x, rank) -> x.memberAt(0, rank));
            noSuchIndex(2, Edges::town, (x, rank) -> x.memberAt(1, rank));
            noSuchIndex(0, Edges::town, (x, rank) -> x.memberAt(2, rank));
            noSuchIndex(6, () -> roomOf(6), (x, rank) -> x.memberAt(0, rank));
        });
    }

    private static void present() {
        edge("Promise 30", "Returns the number of members of a room whose presence is 'a'.", "Returns the number of members.",
            () -> {
                due(6, () -> roomOf(6).present(0));
                due(0, () -> town().present(0));
                due(0, () -> town().present(2));
                Inglenook x = town();
                x.beat(1);
                x.beat(3);
                due(1, () -> x.present(0));
                due(1, () -> x.present(1));
                x.pass(30);
                due(1, () -> x.present(0));
                x.beat(0);
                due(2, () -> x.present(0));
                due(2, () -> x.present(1));
                x.pass(1);
                due(1, () -> x.present(0));
                x.leave(0, 0);
                due(0, () -> x.present(0));
                due(1, () -> x.present(1));
            });
        edge("Promise 30", NO_SUCH_ROOM, () -> noSuchRoom((x, room) -> x.present(room)));
    }

    private static void owner() {
        edge("Promise 31", "Returns the owner of a room.", "Returns the user.", () -> {
            due(0, () -> town().owner(0));
            due(3, () -> town().owner(1));
            due(4, () -> wholeTown().owner(3));
            Inglenook x = town();
            x.leave(3, 1);
            due(0, () -> x.owner(1));
            x.join(3, 1);
            due(0, () -> x.owner(1));
        });
        edge("Promise 31", NO_SUCH_ROOM, () -> noSuchRoom((x, room) -> x.owner(room)));
        edge("Promise 31", "Throws `IllegalStateException` if it has no members", () -> {
            refused(BAD_STATE, Edges::town, x -> x.owner(2));
            Inglenook x = town();
            x.join(1, 2);
            due(1, () -> x.owner(2));
            x.leave(1, 2);
            refuses(BAD_STATE, () -> x.owner(2));
        });
    }

    private static void messagesOfRooms() {
        edge("Promise 32", "Returns the number of messages of a room, removed ones included.",
            "Returns the number of messages.", () -> {
                due(0, () -> roomOf(1).countOf(0));
                due(4, () -> town().countOf(0));
                due(1, () -> town().countOf(1));
                due(0, () -> town().countOf(2));
                due(60, () -> filled(60).countOf(0));
                Inglenook x = town();
                x.remove(3, 3);
                x.remove(0, 0);
                due(4, () -> x.countOf(0));
                due(1, () -> x.countOf(1));
            });
        edge("Promise 32", NO_SUCH_ROOM, () -> noSuchRoom((x, room) -> x.countOf(room)));
        edge("Promise 33", "Returns a message of a room.", "Returns the message.", () -> {
            due(0, () -> town().messageAt(0, 0));
            due(4, () -> town().messageAt(0, 3));
            due(3, () -> town().messageAt(1, 0));
            due(59, () -> filled(60).messageAt(0, 59));
        });
        edge("Promise 33", NO_SUCH_ROOM, () -> noSuchRoom((x, room) -> x.messageAt(room, 0)));
        edge("Promise 33", NO_SUCH_RANK, () -> {
            noSuchIndex(4, Edges::town, (x, rank) -> x.messageAt(0, rank));
            noSuchIndex(1, Edges::town, (x, rank) -> x.messageAt(1, rank));
            noSuchIndex(0, Edges::town, (x, rank) -> x.messageAt(2, rank));
            noSuchIndex(60, () -> filled(60), (x, rank) -> x.messageAt(0, rank));
        });
        edge("Promise 34", "Returns the rank of a message in its room.", "Returns the rank.", () -> {
            int[] ranks = {0, 1, 2, 0, 3};
            for (int count = 0; count < 5; count++) {
                int message = count;
                due(ranks[message], () -> town().rankOf(message));
            }
            due(59, () -> filled(60).rankOf(59));
        });
        edge("Promise 34", NO_SUCH_MESSAGE, () -> noSuchMessage((x, message) -> x.rankOf(message)));
    }

    private static void messages() {
        edge("Promise 35", "Returns the author of a message.", "Returns the user.", () -> {
            int[] authors = {0, 1, 2, 3, 1};
            for (int count = 0; count < 5; count++) {
                int message = count;
                due(authors[message], () -> town().author(message));
            }
            due(5, () -> filled(60).author(59));
            Inglenook x = town();
            x.leave(0, 0);
            x.remove(1, 0);
            due(0, () -> x.author(0));
        });
        edge("Promise 35", NO_SUCH_MESSAGE, () -> noSuchMessage((x, message) -> x.author(message)));
        edge("Promise 36", "Returns the room of a message.", "Returns the room.", () -> {
            int[] rooms = {0, 0, 0, 1, 0};
            for (int count = 0; count < 5; count++) {
                int message = count;
                due(rooms[message], () -> town().roomOf(message));
            }
            Inglenook x = wholeTown();
            say(x, 4, 3, "m");
            due(3, () -> x.roomOf(5));
        });
        edge("Promise 36", NO_SUCH_MESSAGE, () -> noSuchMessage((x, message) -> x.roomOf(message)));
    }

    /** One message, whose text has so many characters, "abc" and so on. */
    private static Inglenook said(int length) {
        Inglenook x = drafted(length);
        x.say(0, 0);
        x.pass(1);
        return x;
    }

    private static Inglenook withRemoved(int length) {
        Inglenook x = said(length);
        x.remove(0, 0);
        return x;
    }

    private static void texts() {
        edge("Promise 37", "Returns the length of the text of a message.", () -> {
            for (int count = 1; count <= 20; count++) {
                int length = count;
                due(length, () -> said(length).length(0));
            }
            due(5, () -> {
                Inglenook x = said(20);
                edit(x, 0, 0, "short");
                return x.length(0);
            });
        });
        edge("Promise 37", "Returns the length; 0 if it is removed.", () -> {
            due(1, () -> said(1).length(0));
            due(0, () -> withRemoved(1).length(0));
            due(20, () -> said(20).length(0));
            due(0, () -> withRemoved(20).length(0));
        });
        edge("Promise 37", NO_SUCH_MESSAGE, () -> noSuchMessage((x, message) -> x.length(message)));
        edge("Promise 38", "Returns a character of the text of a message.", "Returns the character.", () -> {
            for (int count = 0; count < 20; count++) {
                int index = count;
                due((char) ('a' + index), () -> said(20).charAt(0, index));
            }
            due('@', () -> town().charAt(1, 2));
            due('c', () -> town().charAt(1, 3));
        });
        edge("Promise 38", NO_SUCH_MESSAGE, () -> noSuchMessage((x, message) -> x.charAt(message, 0)));
        edge("Promise 38", NO_SUCH_INDEX, () -> {
            for (int length : new int[] {1, 2, 19, 20}) {
                noSuchIndex(length, () -> said(length), (x, index) -> x.charAt(0, index));
                noSuchIndex(0, () -> withRemoved(length), (x, index) -> x.charAt(0, index));
            }
            noSuchIndex(2, () -> {
                Inglenook x = said(20);
                edit(x, 0, 0, "xy");
                return x;
            }, (x, index) -> x.charAt(0, index));
        });
    }

    private static void editsAndRemovals() {
        edge("Promise 39", "Returns how often a message has been edited.", "Returns the number of edits.", () -> {
            Inglenook x = said(3);
            for (int count = 0; count < 6; count++) {
                int edits = count;
                due(edits, () -> x.edits(0));
                edit(x, 0, 0, "m");
            }
            due(6, () -> x.edits(0));
            x.remove(0, 0);
            due(6, () -> x.edits(0));
            due(0, () -> withRemoved(1).edits(0));
        });
        edge("Promise 39", NO_SUCH_MESSAGE, () -> noSuchMessage((x, message) -> x.edits(message)));
        edge("Promise 40", "Returns whether a message is removed.", "Returns true if it is.", () -> {
            due(false, () -> said(1).isRemoved(0));
            due(true, () -> withRemoved(1).isRemoved(0));
            due(false, () -> town().isRemoved(3));
            due(true, () -> town().isRemoved(4));
            Inglenook x = filled(60);
            x.remove(5, 59);
            due(true, () -> x.isRemoved(59));
            due(false, () -> x.isRemoved(58));
        });
        edge("Promise 40", NO_SUCH_MESSAGE, () -> noSuchMessage((x, message) -> x.isRemoved(message)));
    }

    /** 60 messages, each a reply to the one before it, or all to the first one. */
    private static Inglenook replies(boolean inOneChain) {
        Inglenook x = roomOf(1);
        x.setRefill(64);
        say(x, 0, 0, "m");
        for (int message = 1; message < 60; message++) {
            x.pass(1);
            reply(x, 0, inOneChain ? message - 1 : 0, "r");
        }
        return x;
    }

    private static void parents() {
        edge("Promise 41", "Returns the message to which it is a reply.", "Returns the parent of a message.", () -> {
            due(0, () -> town().parent(2));
            due(58, () -> replies(true).parent(59));
            due(0, () -> replies(true).parent(1));
            due(0, () -> replies(false).parent(59));
            Inglenook x = town();
            x.remove(0, 0);
            due(0, () -> x.parent(2));
            x.remove(2, 2);
            due(0, () -> x.parent(2));
        });
        edge("Promise 41", NO_SUCH_MESSAGE, () -> noSuchMessage((x, message) -> x.parent(message)));
        edge("Promise 41", "Throws `IllegalStateException` if it has no parent", () -> {
            refused(BAD_STATE, Edges::town, x -> x.parent(0));
            refused(BAD_STATE, Edges::town, x -> x.parent(3));
            refused(BAD_STATE, Edges::town, x -> x.parent(4));
            refused(BAD_STATE, () -> replies(true), x -> x.parent(0));
        });
        edge("Promise 42", "Returns the depth of a message.", "Returns the depth.", () -> {
            due(0, () -> town().depth(0));
            due(0, () -> town().depth(1));
            due(1, () -> town().depth(2));
            due(0, () -> town().depth(4));
            due(59, () -> replies(true).depth(59));
            due(58, () -> replies(true).depth(58));
            due(1, () -> replies(false).depth(59));
        });
        edge("Promise 42", NO_SUCH_MESSAGE, () -> noSuchMessage((x, message) -> x.depth(message)));
    }

    private static void threads() {
        edge("Promise 43", "Returns the number of messages of the thread of a message, removed ones included.",
            "Returns the number of messages.", () -> {
                due(2, () -> town().threadSize(0));
                due(1, () -> town().threadSize(2));
                due(1, () -> town().threadSize(4));
                due(60, () -> replies(true).threadSize(0));
                due(2, () -> replies(true).threadSize(58));
                due(1, () -> replies(true).threadSize(59));
                due(60, () -> replies(false).threadSize(0));
                Inglenook x = replies(true);
                x.remove(0, 0);
                x.remove(0, 30);
                x.remove(0, 59);
                due(60, () -> x.threadSize(0));
                due(30, () -> x.threadSize(30));
                due(1, () -> x.threadSize(59));
            });
        edge("Promise 43", NO_SUCH_MESSAGE, () -> noSuchMessage((x, message) -> x.threadSize(message)));
        edge("Promise 44", "Returns a message of the thread of a message.", "Returns the message with this rank.", () -> {
            due("0 2", () -> thread(town(), 0));
            due("2", () -> thread(town(), 2));
            Inglenook x = town();
            reply(x, 0, 0, "5");
            reply(x, 2, 2, "6");
            due("0 2 6 5", () -> thread(x, 0));
            x.remove(0, 2);
            due("0 2 6 5", () -> thread(x, 0));
        });
        edge("Promise 44", "- `rank`: the rank in the thread, counted from 0", () -> {
            Inglenook chain = replies(true);
            Inglenook star = replies(false);
            for (int count = 0; count < 60; count++) {
                int rank = count;
                due(rank, () -> chain.threadAt(0, rank));
                due(rank, () -> star.threadAt(0, rank));
                due(rank, () -> chain.threadAt(rank, 0));
                due(59, () -> chain.threadAt(rank, 59 - rank));
            }
        });
        edge("Promise 44", NO_SUCH_MESSAGE, () -> noSuchMessage((x, message) -> x.threadAt(message, 0)));
        edge("Promise 44", NO_SUCH_RANK, () -> {
            noSuchIndex(2, Edges::town, (x, rank) -> x.threadAt(0, rank));
            noSuchIndex(1, Edges::town, (x, rank) -> x.threadAt(4, rank));
            noSuchIndex(60, () -> replies(true), (x, rank) -> x.threadAt(0, rank));
            noSuchIndex(60, () -> replies(false), (x, rank) -> x.threadAt(0, rank));
            noSuchIndex(1, () -> replies(true), (x, rank) -> x.threadAt(59, rank));
        });
    }

    private static void mentions() {
        edge("Promise 45", "Returns whether a message mentions a user.", "Returns true if it does.", () -> {
            boolean[][] wants = {
                {false, true, true, false}, {true, false, true, false}, {true, true, false, false},
                {true, false, false, false}, {false, false, false, false}
            };
            for (int count = 0; count < 20; count++) {
                int message = count / 4;
                int user = count % 4;
                due(wants[message][user], () -> town().mentions(message, user));
            }
            Inglenook x = town();
            x.remove(0, 0);
            due(false, () -> x.mentions(0, 1));
        });
        edge("Promise 45", NO_SUCH_MESSAGE_OR_USER, () -> {
            noSuchMessage((x, message) -> x.mentions(message, 0));
            noSuchUserOfAMessage();
        });
    }

    private static void noSuchUserOfAMessage() {
        for (int user : new int[] {-1, 4, 5, 6, 31, 32, 33, LEAST, MOST}) {
            refused(NO_SUCH, Edges::town, x -> x.mentions(0, user));
            refused(NO_SUCH, Edges::town, x -> x.mentions(5, user));
        }
        refused(NO_SUCH, Edges::wholeTown, x -> x.mentions(0, 6));
        due(false, () -> town().mentions(0, 3));
        due(false, () -> wholeTown().mentions(0, 5));
    }

    private static void unread() {
        Numbered ofUser = (x, user) -> x.unread(user, 0);
        Numbered ofRoom = (x, room) -> x.unread(0, room);
        edge("Promise 46", "Returns the number of messages of a room that are unread for a member, found from the room.",
            "Returns the number of messages.", () -> unreadIsCounted(ofUser, ofRoom));
        edge("Promise 46", NO_SUCH_USER_OR_ROOM, () -> noSuchUserOrRoom(ofUser, ofRoom));
        edge("Promise 46", NOT_A_MEMBER, () -> notAMember(ofUser));
        Numbered ofUserByLog = (x, user) -> x.unreadByLog(user, 0);
        Numbered ofRoomByLog = (x, room) -> x.unreadByLog(0, room);
        edge("Promise 47", "Returns the same as unread, found by replaying the log.", "Returns the number of messages.",
            () -> unreadIsCounted(ofUserByLog, ofRoomByLog));
        edge("Promise 47", NO_SUCH_USER_OR_ROOM, () -> noSuchUserOrRoom(ofUserByLog, ofRoomByLog));
        edge("Promise 47", NOT_A_MEMBER, () -> notAMember(ofUserByLog));
    }

    private static void noSuchUserOrRoom(Numbered ofUser, Numbered ofRoom) {
        noSuchUser(ofUser);
        noSuchRoom(ofRoom);
    }

    private static void notAMember(Numbered ofUser) {
        refused(NOT_ALLOWED, Edges::town, x -> ofUser.on(x, 3));
        refused(NOT_ALLOWED, () -> {
            Inglenook x = town();
            x.leave(1, 0);
            x.pass(1);
            return x;
        }, x -> ofUser.on(x, 1));
        Inglenook x = town();
        x.join(3, 0);
        due(0, () -> ofUser.on(x, 3));
    }

    private static void unreadIsCounted(Numbered ofUser, Numbered ofRoom) {
        due(0, () -> ofUser.on(roomOf(1), 0));
        due(2, () -> ofUser.on(town(), 0));
        due(1, () -> ofUser.on(town(), 1));
        due(0, () -> ofUser.on(town(), 2));
        due(1, () -> ofRoom.on(town(), 1));
        due(50, () -> ofUser.on(filled(60), 0));
        due(50, () -> ofUser.on(filled(60), 5));
        Inglenook x = town();
        x.remove(0, 1);
        due(1, () -> ofUser.on(x, 0));
        due(1, () -> ofUser.on(x, 1));
        x.readTo(1, 4);
        due(0, () -> ofUser.on(x, 1));
        say(x, 0, 1, "elsewhere");
        due(0, () -> ofUser.on(x, 1));
        say(x, 2, 0, "here");
        due(1, () -> ofUser.on(x, 1));
        due(2, () -> ofUser.on(x, 0));
        x.leave(1, 0);
        x.join(1, 0);
        due(0, () -> ofUser.on(x, 1));
        due(2, () -> ofUser.on(x, 0));
        firstAndOtherRoomsCount(ofUser, ofRoom);
    }

    /** The first message is edited, read and removed; between the questions another room is asked about. */
    private static void firstAndOtherRoomsCount(Numbered ofUser, Numbered ofRoom) {
        Inglenook x = roomOf(3);
        x.open(1);
        x.join(0, 1);
        for (int count = 0; count < 3; count++) {
            say(x, 1, 0, "m");
            say(x, 2, 0, "m");
        }
        say(x, 1, 1, "m");
        x.pass(8);
        edit(x, 1, 0, "n");
        due(6, () -> ofUser.on(x, 0));
        x.remove(1, 0);
        due(5, () -> ofUser.on(x, 0));
        due(1, () -> ofRoom.on(x, 1));
        due(5, () -> ofRoom.on(x, 0));
        x.readTo(0, 0);
        due(5, () -> ofUser.on(x, 0));
        x.read(2, 0);
        due(5, () -> ofUser.on(x, 0));
        x.leave(2, 0);
        x.pass(1);
        due(5, () -> ofUser.on(x, 0));
        x.readTo(0, 1);
        due(4, () -> ofUser.on(x, 0));
        due(3, () -> ofUser.on(x, 1));
    }

    private static void unreadMentions() {
        Numbered ofUser = (x, user) -> x.unreadMentions(user, 0);
        Numbered ofRoom = (x, room) -> x.unreadMentions(0, room);
        edge("Promise 48", "Returns the number of messages of a room that are unread for a member and mention the member, found"
            + " from the room.", "Returns the number of messages.", () -> mentionsAreCounted(ofUser, ofRoom));
        edge("Promise 48", NO_SUCH_USER_OR_ROOM, () -> noSuchUserOrRoom(ofUser, ofRoom));
        edge("Promise 48", NOT_A_MEMBER, () -> notAMember(ofUser));
        Numbered ofUserByLog = (x, user) -> x.mentionsByLog(user, 0);
        Numbered ofRoomByLog = (x, room) -> x.mentionsByLog(0, room);
        edge("Promise 49", "Returns the same as unreadMentions, found by replaying the log.", "Returns the number of messages.",
            () -> mentionsAreCounted(ofUserByLog, ofRoomByLog));
        edge("Promise 49", NO_SUCH_USER_OR_ROOM, () -> noSuchUserOrRoom(ofUserByLog, ofRoomByLog));
        edge("Promise 49", NOT_A_MEMBER, () -> notAMember(ofUserByLog));
    }

    private static void mentionsAreCounted(Numbered ofUser, Numbered ofRoom) {
        due(0, () -> ofUser.on(roomOf(1), 0));
        due(2, () -> ofUser.on(town(), 0));
        due(1, () -> ofUser.on(town(), 1));
        due(0, () -> ofUser.on(town(), 2));
        due(1, () -> ofRoom.on(town(), 1));
        due(0, () -> ofUser.on(filled(60), 0));
        Inglenook x = town();
        x.readTo(1, 2);
        due(0, () -> ofUser.on(x, 1));
        x.readTo(1, 0);
        due(1, () -> ofUser.on(x, 1));
        edit(x, 2, 2, "@a b");
        due(0, () -> ofUser.on(x, 1));
        due(2, () -> ofUser.on(x, 0));
        x.remove(0, 2);
        due(1, () -> ofUser.on(x, 0));
        x.setRefill(64);
        x.pass(4);
        x.say(1, 0);
        x.pass(1);
        for (int count = 0; count < 4; count++) {
            int before = count;
            due(before, () -> ofUser.on(x, 2));
            say(x, 1, 0, count % 2 == 0 ? "................@c@a" : "@@c@c");
        }
        due(4, () -> ofUser.on(x, 2));
        due(3, () -> ofUser.on(x, 0));
        due(0, () -> ofUser.on(x, 1));
        onlyMembersThenCount(ofUser);
        whoCameLaterIsNotCounted(ofUser, ofRoom);
        editsOfTheFirstCount(ofUser);
    }

    /** The users 0 and 2 were no members when they were called, and have set their marks back since. */
    private static void onlyMembersThenCount(Numbered ofUser) {
        Inglenook x = roomOf(3);
        x.leave(0, 0);
        x.leave(2, 0);
        say(x, 1, 0, "first");
        say(x, 1, 0, "@a@c");
        x.join(0, 0);
        x.join(2, 0);
        x.readTo(0, 0);
        x.readTo(2, 0);
        due(0, () -> ofUser.on(x, 0));
        due(0, () -> ofUser.on(x, 2));
        edit(x, 1, 1, "@a@c");
        due(1, () -> ofUser.on(x, 0));
        due(1, () -> ofUser.on(x, 2));
        x.leave(2, 0);
        due(1, () -> ofUser.on(x, 0));
        edit(x, 1, 1, "@c@a");
        x.join(2, 0);
        x.readTo(2, 0);
        due(0, () -> ofUser.on(x, 2));
        due(1, () -> ofUser.on(x, 0));
    }

    /** The user 0 is a member of another room meanwhile, and that room is asked about first. */
    private static void whoCameLaterIsNotCounted(Numbered ofUser, Numbered ofRoom) {
        Inglenook x = server(3);
        x.open(1);
        x.open(0);
        say(x, 1, 0, "first");
        say(x, 1, 0, "@a@c");
        x.join(0, 0);
        x.join(2, 0);
        x.readTo(0, 0);
        x.readTo(2, 0);
        due(0, () -> ofRoom.on(x, 1));
        due(0, () -> ofUser.on(x, 0));
        due(0, () -> ofUser.on(x, 2));
    }

    private static void editsOfTheFirstCount(Numbered ofUser) {
        Inglenook x = roomOf(2);
        say(x, 0, 0, "nobody");
        say(x, 0, 0, "@b");
        due(1, () -> ofUser.on(x, 1));
        edit(x, 0, 0, "@b");
        due(2, () -> ofUser.on(x, 1));
        edit(x, 0, 1, "nobody");
        due(1, () -> ofUser.on(x, 1));
        x.remove(0, 0);
        due(0, () -> ofUser.on(x, 1));
    }

    private static void events() {
        edge("Promise 50", "Returns the number of events of the log.", "Returns the number of events.", () -> {
            due(0, () -> new Inglenook().events());
            due(6, () -> server(6).events());
            due(20, () -> town().events());
            Inglenook x = server(6);
            refuses(BAD_STATE, () -> x.register());
            x.beat(0);
            due(6, () -> x.events());
            Inglenook full = new Inglenook();
            for (int calls = 0; calls < 511; calls++) {
                full.pass(1);
            }
            due(511, () -> full.events());
        });
        edge("Promise 51", "Returns the number of events of a kind.", "Returns the number of events.", () -> {
            String kinds = "rojlsexmp";
            int[] wants = {4, 3, 3, 1, 5, 0, 1, 2, 1};
            for (int index = 0; index < wants.length; index++) {
                char kind = kinds.charAt(index);
                due(wants[index], () -> town().eventsOf(kind));
                due(0, () -> new Inglenook().eventsOf(kind));
            }
            Inglenook full = new Inglenook();
            for (int calls = 0; calls < 511; calls++) {
                full.pass(1);
            }
            due(511, () -> full.eventsOf('p'));
        });
        edge("Promise 51", "- `kind`: the kind, 'r', 'o', 'j', 'l', 's', 'e', 'x', 'm' or 'p'", () -> {
            Inglenook x = new Inglenook();
            for (char kind : "rojlsexmp".toCharArray()) {
                due(0, () -> x.eventsOf(kind));
            }
        });
        edge("Promise 51", "Throws `IllegalArgumentException` if there is no such kind", () -> {
            for (int code = 0; code < 1024; code++) {
                char kind = (char) code;
                Object want = "rojlsexmp".indexOf(kind) < 0 ? BAD_ARGUMENT : (Object) 0;
                due(want, () -> new Inglenook().eventsOf(kind));
            }
            for (char kind : new char[] {0, 'a', 'R', 'P', 'q', 256 + 'r', 32768 + 'r', 65535}) {
                refused(BAD_ARGUMENT, Edges::town, x -> x.eventsOf(kind));
            }
        });
    }

    private static void seenShare() {
        edge("Promise 52", "Returns the share of the members of the room of a message, its author left out, whose mark counts it:"
            + " their number divided by that of all these members, both converted to float.", "Returns the share.", () -> {
                Inglenook x = filled(60);
                x.leave(0, 0);
                due(0.0f, () -> x.seenShare(54));
                for (int count = 1; count < 6; count++) {
                    int readers = count;
                    x.readTo(readers, 54);
                    due((float) readers / 5.0f, () -> x.seenShare(54));
                }
                due(0.0f, () -> x.seenShare(55));
                x.leave(1, 0);
                x.leave(2, 0);
                x.readTo(3, 53);
                due(2.0f / 3.0f, () -> x.seenShare(54));
                x.readTo(4, 0);
                due(1.0f / 3.0f, () -> x.seenShare(54));
                x.join(0, 0);
                due(1.0f / 3.0f, () -> x.seenShare(54));
                due(2.0f / 3.0f, () -> x.seenShare(53));
            });
        edge("Promise 52", NO_SUCH_MESSAGE, () -> noSuchMessage((x, message) -> x.seenShare(message)));
        edge("Promise 52", "Throws `ArithmeticException` if there are no such members", () -> {
            refused(NO_SHARE, () -> said(1), x -> x.seenShare(0));
            refused(NO_SHARE, () -> {
                Inglenook x = said(1);
                x.leave(0, 0);
                x.pass(1);
                return x;
            }, x -> x.seenShare(0));
            Inglenook x = said(1);
            x.register();
            x.join(1, 0);
            due(1.0f, () -> x.seenShare(0));
            x.leave(0, 0);
            due(1.0f, () -> x.seenShare(0));
            x.leave(1, 0);
            refuses(NO_SHARE, () -> x.seenShare(0));
            x.join(0, 0);
            refuses(NO_SHARE, () -> x.seenShare(0));
        });
    }

    private static void bothActivities(Inglenook x, int user, double want) {
        due(want, () -> x.activity(user));
        due(Double.doubleToLongBits(want), () -> x.activityBits(user));
    }

    private static void activity() {
        edge("Promise 53", "Returns the activity of a user: 0.0, to which a number is added for each message of the user that is"
            + " not removed, in the order of their numbers, in double arithmetic. This number is 1.0 divided by the sum of 1 and"
            + " the number of seconds that have passed since the message was said.", "Returns the activity.", () -> {
                due(0.0, () -> server(1).activity(0));
                due(1.0 / 51, () -> town().activity(0));
                due(1.0 / 51, () -> town().activity(1));
                due(1.0, () -> {
                    Inglenook x = roomOf(1);
                    say(x, 0, 0, "m");
                    return x.activity(0);
                });
                for (int seconds : new int[] {1, 2, 3, 9, 48, 599, 600}) {
                    Inglenook x = roomOf(1);
                    x.pass(13);
                    say(x, 0, 0, "m");
                    x.pass(seconds);
                    due(1.0 / (1 + seconds), () -> x.activity(0));
                    x.remove(0, 0);
                    due(0.0, () -> x.activity(0));
                }
                partsAreAddedInOrder();
            });
        edge("Promise 53", NO_SUCH_USER, () -> noSuchUser((x, user) -> x.activity(user)));
    }

    /** The waits are such that adding the parts the other way round gives another double. */
    private static void partsAreAddedInOrder() {
        Inglenook x = roomOf(1);
        x.setRefill(64);
        int[] times = new int[60];
        for (int message = 0; message < 60; message++) {
            times[message] = x.time();
            say(x, 0, 0, "m");
            x.pass(1 + message % 7);
        }
        int now = x.time();
        double forward = 0.0;
        double backward = 0.0;
        for (int message = 0; message < 60; message++) {
            forward += 1.0 / (1 + now - times[message]);
            backward += 1.0 / (1 + now - times[59 - message]);
        }
        boolean differing = forward != backward;
        due(true, () -> differing);
        bothActivities(x, 0, forward);
    }

    private static void activityBits() {
        edge("Promise 54", "Returns the activity of a user as the bits of the double, as by Double.doubleToLongBits.",
            "Returns the bits.", () -> {
                due(0L, () -> server(1).activityBits(0));
                due(Double.doubleToLongBits(1.0 / 51), () -> town().activityBits(2));
                Inglenook x = roomOf(1);
                say(x, 0, 0, "m");
                due(0x3ff0000000000000L, () -> x.activityBits(0));
                x.pass(1);
                due(0x3fe0000000000000L, () -> x.activityBits(0));
                for (int seconds = 2; seconds < 160; seconds++) {
                    x.pass(1);
                    bothActivities(x, 0, 1.0 / (1 + seconds));
                }
                Inglenook late = roomOf(1);
                say(late, 0, 0, "m");
                for (int calls = 0; calls < 500; calls++) {
                    late.pass(600);
                }
                bothActivities(late, 0, 1.0 / 300001);
                Inglenook busy = roomOf(1);
                busy.setRefill(64);
                for (int count = 1; count <= 4; count++) {
                    say(busy, 0, 0, "m");
                    bothActivities(busy, 0, count);
                }
                busy.pass(4);
                bothActivities(busy, 0, 0.2 + 0.2 + 0.2 + 0.2);
                for (int count = 1; count <= 4; count++) {
                    say(busy, 0, 0, "m");
                    bothActivities(busy, 0, 0.2 + 0.2 + 0.2 + 0.2 + (double) count);
                }
            });
        edge("Promise 54", NO_SUCH_USER, () -> noSuchUser((x, user) -> x.activityBits(user)));
    }
}
