/** The sentences of promises 1 to 18, the calls that change a server, each with a test of its own. */
final class CallsEdgesTest extends Edges {
    public static void main(String[] args) {
        aNewObject();
        register();
        beat();
        pass();
        setRefill();
        open();
        join();
        leave();
        type();
        insert();
        erase();
        reverse();
        say();
        sayOrReplyIsRefused("Promise 13", x -> x.say(0, 0));
        reply();
        sayOrReplyIsRefused("Promise 14", x -> x.reply(0, 0));
        edit();
        editIsRefused();
        remove();
        removeIsRefused();
        read();
        readTo();
        promisesAreComplete(1, 18);
        end();
    }

    private static void aNewObject() {
        edge("Promise 1", "Creates a server without users and rooms, at the time 0.", () -> {
            due(0, () -> new Inglenook().users());
            due(0, () -> new Inglenook().rooms());
            due(0, () -> new Inglenook().messages());
            due(0, () -> new Inglenook().time());
            due(0, () -> new Inglenook().events());
            refuses(NO_SUCH, () -> new Inglenook().presence(0));
            refuses(NO_SUCH, () -> new Inglenook().members(0));
            refuses(NO_SUCH, () -> new Inglenook().author(0));
            Inglenook other = town();
            due(4, () -> other.users());
            due(0, () -> new Inglenook().users());
        });
    }

    private static void register() {
        edge("Promise 2", "Registers a user.", () -> {
            Inglenook x = new Inglenook();
            x.register();
            due(1, () -> x.users());
            due('a', () -> x.presence(0));
            due(4.0f, () -> x.tokens(0));
            due(0, () -> x.draftLength(0));
            refuses(NO_SUCH, () -> x.presence(1));
        });
        edge("Promise 2", "Returns the number of the user.", () -> {
            due(0, () -> new Inglenook().register());
            due(1, () -> server(1).register());
            due(5, () -> server(5).register());
        });
        edge("Promise 2", "Throws `IllegalStateException` if there are 6 users", () -> {
            due(5, () -> server(5).register());
            refused(BAD_STATE, () -> server(6), x -> x.register());
            refused(BAD_STATE, Edges::wholeTown, x -> x.register());
        });
    }

    private static void beat() {
        edge("Promise 3", "Tells that a user is there.", () -> {
            Inglenook x = town();
            due('i', () -> x.presence(2));
            x.beat(2);
            due('a', () -> x.presence(2));
            due('i', () -> x.presence(1));
            x.pass(30);
            due('a', () -> x.presence(2));
            x.pass(1);
            due('i', () -> x.presence(2));
        });
        edge("Promise 3", "Returns the time.", () -> {
            due(0, () -> server(1).beat(0));
            due(50, () -> town().beat(3));
            due(57, () -> wholeTown().beat(5));
        });
        edge("Promise 3", NO_SUCH_USER, () -> noSuchUser((x, user) -> x.beat(user)));
    }

    private static void pass() {
        edge("Promise 4", "Lets seconds pass.", () -> {
            Inglenook x = town();
            x.setRefill(64);
            due('i', () -> x.presence(0));
            x.pass(131);
            due(181, () -> x.time());
            due('o', () -> x.presence(0));
            due(4.0f, () -> x.tokens(0));
        });
        edge("Promise 4", "- `seconds`: the number of seconds, 1 to 600", () -> {
            for (int seconds : new int[] {1, 2, 599, 600}) {
                due(seconds, () -> new Inglenook().pass(seconds));
            }
            Inglenook x = poor(0);
            x.setRefill(1);
            x.pass(1);
            due(0.015625f, () -> x.tokens(0));
        });
        edge("Promise 4", "Returns the time after the call.", () -> {
            Inglenook x = new Inglenook();
            due(600, () -> x.pass(600));
            due(601, () -> x.pass(1));
            due(1201, () -> x.pass(600));
        });
        edge("Promise 4", "Throws `IllegalArgumentException` if the number is out of range", () -> {
            for (int seconds : new int[] {0, -1, 601, 602, 65536 + 1, -600, LEAST, LEAST + 1, MOST}) {
                refused(BAD_ARGUMENT, Edges::town, x -> x.pass(seconds));
                refused(BAD_ARGUMENT, Inglenook::new, x -> x.pass(seconds));
            }
        });
    }

    private static void setRefill() {
        edge("Promise 5", "Sets the refill.", () -> {
            Inglenook x = poor(0);
            x.setRefill(16);
            x.pass(4);
            due(1.0f, () -> x.tokens(0));
            x.setRefill(32);
            due(1.0f, () -> x.tokens(0));
            x.pass(4);
            due(3.0f, () -> x.tokens(0));
        });
        edge("Promise 5", "- `refill`: the refill, 0 to 64", () -> {
            for (int refill : new int[] {0, 1, 63, 64}) {
                Inglenook x = poor(0);
                due(0, () -> x.setRefill(refill));
                x.pass(1);
                due(refill / 64.0f, () -> x.tokens(0));
                due(refill, () -> x.setRefill(refill));
            }
        });
        edge("Promise 5", "Returns the refill before.", () -> {
            Inglenook x = new Inglenook();
            due(8, () -> x.setRefill(64));
            due(64, () -> x.setRefill(0));
            due(0, () -> x.setRefill(7));
            due(7, () -> x.setRefill(7));
            due(7, () -> x.setRefill(8));
        });
        edge("Promise 5", "Throws `IllegalArgumentException` if the refill is out of range", () -> {
            for (int refill : new int[] {-1, 65, 66, -64, 256 + 1, LEAST, MOST}) {
                refused(BAD_ARGUMENT, Edges::town, x -> x.setRefill(refill));
                refused(BAD_ARGUMENT, Inglenook::new, x -> x.setRefill(refill));
            }
        });
    }

    private static void open() {
        edge("Promise 6", "Opens a room.", () -> {
            Inglenook x = server(1);
            x.open(0);
            due(1, () -> x.rooms());
            due(0, () -> x.countOf(0));
            refuses(NO_SUCH, () -> x.members(1));
        });
        edge("Promise 6", "- `user`: the user who opens it", () -> {
            Inglenook x = server(3);
            x.open(2);
            due("2", () -> members(x, 0));
            due(2, () -> x.owner(0));
            due(0, () -> x.unread(2, 0));
            refuses(NOT_ALLOWED, () -> x.unread(0, 0));
        });
        edge("Promise 6", "Returns the number of the room.", () -> {
            Inglenook x = server(2);
            for (int count = 0; count < 4; count++) {
                int room = count;
                due(room, () -> x.open(1));
            }
        });
        edge("Promise 6", NO_SUCH_USER, () -> noSuchUser((x, user) -> x.open(user)));
        edge("Promise 6", "Throws `IllegalStateException` if there are 4 rooms", () -> {
            due(3, () -> town().open(1));
            refused(BAD_STATE, Edges::wholeTown, x -> x.open(1));
            refused(BAD_STATE, () -> {
                Inglenook x = wholeTown();
                x.leave(4, 3);
                return x;
            }, x -> x.open(1));
        });
    }

    private static void join() {
        edge("Promise 7", "Joins a room.", () -> {
            Inglenook x = town();
            x.join(3, 0);
            due("0123", () -> members(x, 0));
            due("30", () -> members(x, 1));
            due(0, () -> x.unread(3, 0));
        });
        edge("Promise 7", "Returns the number of members after the call.", () -> {
            Inglenook x = wholeTown();
            due(1, () -> x.join(5, 2));
            due(4, () -> x.join(5, 0));
            due(5, () -> x.join(4, 0));
            due(6, () -> x.join(3, 0));
        });
        edge("Promise 7", NO_SUCH_USER_OR_ROOM, () -> {
            noSuchUser((x, user) -> x.join(user, 2));
            noSuchRoom((x, room) -> x.join(2, room));
            refused(NO_SUCH, Edges::town, x -> x.join(4, 3));
        });
        edge("Promise 7", "Throws `IllegalStateException` if the user is a member", () -> {
            refused(BAD_STATE, Edges::town, x -> x.join(0, 0));
            refused(BAD_STATE, Edges::town, x -> x.join(2, 0));
            refused(BAD_STATE, Edges::town, x -> x.join(3, 1));
            due(3, () -> town().join(1, 1));
            Inglenook x = town();
            x.leave(0, 0);
            due(3, () -> x.join(0, 0));
            refuses(BAD_STATE, () -> x.join(0, 0));
        });
    }

    private static void leave() {
        edge("Promise 8", "Leaves a room.", () -> {
            Inglenook x = town();
            x.leave(0, 0);
            due("12", () -> members(x, 0));
            due("30", () -> members(x, 1));
            due(4, () -> x.countOf(0));
            due(0, () -> x.author(0));
        });
        edge("Promise 8", "Returns the number of members after the call.", () -> {
            Inglenook x = town();
            due(2, () -> x.leave(1, 0));
            due(1, () -> x.leave(0, 0));
            due(0, () -> x.leave(2, 0));
            due(1, () -> x.leave(3, 1));
        });
        edge("Promise 8", NO_SUCH_USER_OR_ROOM, () -> {
            noSuchUser((x, user) -> x.leave(user, 0));
            noSuchRoom((x, room) -> x.leave(0, room));
            refused(NO_SUCH, Edges::town, x -> x.leave(4, 3));
        });
        edge("Promise 8", NOT_A_MEMBER, () -> notAMember((x, user) -> x.leave(user, 0)));
    }

    /** The act names a user with a draft, for room 0 or a message of it. */
    private static void notAMember(Numbered act) {
        refused(NOT_ALLOWED, Edges::town, x -> act.on(x, 3));
        refused(NOT_ALLOWED, () -> withoutMember(0), x -> act.on(x, 0));
        refused(NOT_ALLOWED, () -> withoutMember(1), x -> act.on(x, 1));
        due(false, () -> outcome(() -> act.on(town(), 0)) instanceof Class);
        due(false, () -> outcome(() -> act.on(town(), 1)) instanceof Class);
        due(false, () -> {
            Inglenook x = withoutMember(1);
            x.join(1, 0);
            return outcome(() -> act.on(x, 1)) instanceof Class;
        });
    }

    private static Inglenook withoutMember(int user) {
        Inglenook x = town();
        x.leave(user, 0);
        x.pass(1);
        return x;
    }

    private static void type() {
        edge("Promise 9", "Adds a character at the end of the draft of a user.", () -> {
            Inglenook x = town();
            x.type(2, 'a');
            x.type(2, 'b');
            due("ab", () -> draft(x, 2));
            x.type(0, '!');
            due("zero!", () -> draft(x, 0));
            due("one", () -> draft(x, 1));
            Inglenook y = drafted(19);
            y.type(0, 'T');
            due("abcdefghijklmnopqrsT", () -> draft(y, 0));
        });
        edge("Promise 9", "Returns the length of the draft after the call.", () -> {
            for (int count = 0; count < 20; count++) {
                int length = count;
                due(length + 1, () -> drafted(length).type(0, 'x'));
            }
        });
        edge("Promise 9", NO_SUCH_USER, () -> noSuchUser((x, user) -> x.type(user, 'x')));
        edge("Promise 9", "Throws `IllegalArgumentException` if the code of the character is out of range",
            () -> codesAreChecked((x, code) -> x.type(0, (char) code)));
        edge("Promise 9", "Throws `IllegalStateException` if the draft has 20 characters",
            () -> draftsAreChecked(x -> x.type(0, 'x')));
    }

    private static void codesAreChecked(Numbered act) {
        int[] wrong = {0, 1, 9, 10, 31, 127, 128, 255, 256, 256 + 32, 256 + 97, 512 + 97, 32768 + 97, 65535};
        for (int code : wrong) {
            refused(BAD_ARGUMENT, Edges::town, x -> act.on(x, code));
            refused(BAD_ARGUMENT, () -> drafted(20), x -> act.on(x, code));
        }
        for (int code : new int[] {32, 33, 125, 126}) {
            due(5, () -> act.on(town(), code));
        }
    }

    private static void draftsAreChecked(Act act) {
        refused(BAD_STATE, () -> drafted(20), act);
        due(20, () -> act.on(drafted(19)));
        due(1, () -> act.on(drafted(0)));
        Inglenook x = drafted(20);
        x.erase(0);
        due(20, () -> act.on(x));
        refuses(BAD_STATE, () -> act.on(x));
    }

    private static void insert() {
        edge("Promise 10", "Inserts a character ahead of an index of the draft of a user.", () -> {
            String[] wants = {"xzero", "zxero", "zexro", "zerxo", "zerox"};
            for (int count = 0; count < 5; count++) {
                int index = count;
                Inglenook x = town();
                x.insert(0, index, 'x');
                due(wants[index], () -> draft(x, 0));
                due("one", () -> draft(x, 1));
            }
        });
        edge("Promise 10", "- `index`: the index, up to the length of the draft", () -> {
            for (int length : new int[] {0, 1, 18, 19}) {
                Inglenook first = drafted(length);
                first.insert(0, 0, 'x');
                due('x', () -> first.draftAt(0, 0));
                Inglenook last = drafted(length);
                last.insert(0, length, 'x');
                due('x', () -> last.draftAt(0, length));
                due(length + 1, () -> last.draftLength(0));
            }
        });
        edge("Promise 10", "Returns the length of the draft after the call.", () -> {
            for (int count = 0; count < 20; count++) {
                int length = count;
                due(length + 1, () -> drafted(length).insert(0, length / 2, 'x'));
            }
        });
        edge("Promise 10", NO_SUCH_USER, () -> noSuchUser((x, user) -> x.insert(user, 0, 'x')));
        edge("Promise 10", "Throws `IndexOutOfBoundsException` if the index is less than 0 or greater than the length of the"
            + " draft", () -> {
                for (int length : new int[] {0, 1, 19, 20}) {
                    for (int index : new int[] {-1, length + 1, length + 2, LEAST, MOST}) {
                        refused(NO_INDEX, () -> drafted(length), x -> x.insert(0, index, 'x'));
                        refused(NO_INDEX, () -> drafted(length), x -> x.insert(0, index, (char) 31));
                    }
                }
            });
        edge("Promise 10", "Throws `IllegalArgumentException` if the code of the character is out of range", () -> {
            codesAreChecked((x, code) -> x.insert(0, 0, (char) code));
            codesAreChecked((x, code) -> x.insert(0, x.draftLength(0), (char) code));
        });
        edge("Promise 10", "Throws `IllegalStateException` if the draft has 20 characters", () -> {
            draftsAreChecked(x -> x.insert(0, 0, 'x'));
            draftsAreChecked(x -> x.insert(0, x.draftLength(0), 'x'));
        });
    }

    private static void erase() {
        edge("Promise 11", "Removes the last character of the draft of a user.", () -> {
            Inglenook x = town();
            x.erase(0);
            due("zer", () -> draft(x, 0));
            due("one", () -> draft(x, 1));
            Inglenook full = drafted(20);
            full.erase(0);
            due("abcdefghijklmnopqrs", () -> draft(full, 0));
            Inglenook last = drafted(1);
            last.erase(0);
            due("", () -> draft(last, 0));
        });
        edge("Promise 11", "Returns the character.", () -> {
            due('t', () -> drafted(20).erase(0));
            due('s', () -> drafted(19).erase(0));
            due('a', () -> drafted(1).erase(0));
        });
        edge("Promise 11", NO_SUCH_USER, () -> noSuchUser((x, user) -> x.erase(user)));
        edge("Promise 11", "Throws `IllegalStateException` if the draft is empty", () -> {
            refused(BAD_STATE, () -> drafted(0), x -> x.erase(0));
            refused(BAD_STATE, Edges::town, x -> x.erase(2));
            due('a', () -> drafted(1).erase(0));
            Inglenook x = drafted(1);
            x.erase(0);
            refuses(BAD_STATE, () -> x.erase(0));
            say(x, 0, 0, "m");
            refuses(BAD_STATE, () -> x.erase(0));
            edit(x, 0, 0, "n");
            refuses(BAD_STATE, () -> x.erase(0));
        });
    }

    private static void reverse() {
        edge("Promise 12", "Reverses the draft of a user.", () -> {
            String signs = "abcdefghijklmnopqrst";
            for (int length = 0; length <= 20; length++) {
                String want = new StringBuilder(signs.substring(0, length)).reverse().toString();
                Inglenook x = drafted(length);
                x.reverse(0);
                due(want, () -> draft(x, 0));
            }
            Inglenook x = town();
            x.reverse(0);
            due("orez", () -> draft(x, 0));
            due("one", () -> draft(x, 1));
        });
        edge("Promise 12", "Returns the length of the draft.", () -> {
            for (int length : new int[] {0, 1, 2, 19, 20}) {
                due(length, () -> drafted(length).reverse(0));
            }
        });
        edge("Promise 12", NO_SUCH_USER, () -> noSuchUser((x, user) -> x.reverse(user)));
    }

    private static void say() {
        edge("Promise 13", "Says the draft in a room.", () -> {
            Inglenook x = town();
            x.say(0, 1);
            due(6, () -> x.messages());
            due("zero", () -> text(x, 5));
            due(0, () -> x.author(5));
            due(1, () -> x.roomOf(5));
            due(1, () -> x.rankOf(5));
            refuses(BAD_STATE, () -> x.parent(5));
            due(0, () -> x.edits(5));
            due(false, () -> x.isRemoved(5));
        });
        edge("Promise 13", "Returns the number of the message.", () -> {
            due(0, () -> drafted(1).say(0, 0));
            due(5, () -> town().say(0, 1));
            due(59, () -> filled(59).say(0, 0));
        });
        edge("Promise 13", NO_SUCH_USER_OR_ROOM, () -> {
            noSuchUser((x, user) -> x.say(user, 0));
            noSuchRoom((x, room) -> x.say(0, room));
            noSuchRoom((x, room) -> x.say(2, room));
        });
        edge("Promise 13", NOT_A_MEMBER, () -> notAMember((x, user) -> x.say(user, 0)));
    }

    /** The user 0 says or answers in room 0, of which it is a member. */
    private static void sayOrReplyIsRefused(String heading, Act act) {
        String sentence = "Throws `IllegalStateException` if the draft is empty, the user has less than 1 token, or there are"
            + " 60 messages";
        edge(heading, sentence, () -> {
            refused(BAD_STATE, () -> withDraft(0), act);
            due(5, () -> act.on(withDraft(1)));
            due(5, () -> act.on(withDraft(20)));
        });
        edge(heading, sentence, () -> {
            refused(BAD_STATE, () -> poor(0), act);
            refused(BAD_STATE, () -> poor(32), act);
            refused(BAD_STATE, () -> poor(63), act);
            due(4, () -> act.on(poor(64)));
            due(4, () -> act.on(poor(65)));
            Inglenook x = poor(64);
            act.on(x);
            due(0.0f, () -> x.tokens(0));
        });
        edge(heading, sentence, () -> {
            due(58, () -> act.on(filled(58)));
            due(59, () -> act.on(filled(59)));
            refused(BAD_STATE, () -> filled(60), act);
        });
    }

    /** The town, where the draft of the user 0 has so many characters. */
    private static Inglenook withDraft(int length) {
        Inglenook x = town();
        for (int count = 0; count < 4; count++) {
            x.erase(0);
        }
        write(x, 0, "abcdefghijklmnopqrst".substring(0, length));
        x.pass(10);
        return x;
    }

    private static void reply() {
        edge("Promise 14", "Says the draft as a reply to a message.", () -> {
            Inglenook x = town();
            x.reply(0, 3);
            due("zero", () -> text(x, 5));
            due(3, () -> x.parent(5));
            due(1, () -> x.depth(5));
            due(1, () -> x.roomOf(5));
            due(0, () -> x.author(5));
            due("3 5", () -> thread(x, 3));
        });
        edge("Promise 14", "Returns the number of the reply.", () -> {
            due(5, () -> town().reply(0, 3));
            due(59, () -> filled(59).reply(0, 58));
        });
        edge("Promise 14", NO_SUCH_USER_OR_MESSAGE, () -> {
            noSuchUser((x, user) -> x.reply(user, 0));
            noSuchMessage((x, message) -> x.reply(0, message));
            refused(NO_SUCH, Edges::town, x -> x.reply(2, 5));
        });
        edge("Promise 14", "Throws `UnsupportedOperationException` if the user is not a member of the room of the message, or"
            + " the message is removed", () -> notAMember((x, user) -> x.reply(user, 0)));
        edge("Promise 14", "Throws `UnsupportedOperationException` if the user is not a member of the room of the message, or"
            + " the message is removed", () -> {
                refused(NOT_ALLOWED, Edges::town, x -> x.reply(0, 4));
                refused(NOT_ALLOWED, Edges::town, x -> x.reply(1, 4));
                refused(NOT_ALLOWED, Edges::town, x -> x.reply(2, 4));
                due(5, () -> town().reply(0, 2));
            });
    }

    private static void edit() {
        edge("Promise 15", "Replaces the text of a message by the draft.", () -> {
            Inglenook x = town();
            x.edit(0, 0);
            due("zero", () -> text(x, 0));
            due("@a@c", () -> text(x, 1));
            due("", () -> draft(x, 0));
            edit(x, 0, 0, "abcdefghijklmnopqrst");
            due("abcdefghijklmnopqrst", () -> text(x, 0));
            edit(x, 0, 0, "s");
            due("s", () -> text(x, 0));
            due(5, () -> x.messages());
        });
        edge("Promise 15", "Returns how often the message has been edited after the call.", () -> {
            Inglenook x = roomOf(1);
            say(x, 0, 0, "m");
            for (int count = 1; count <= 6; count++) {
                int edits = count;
                due(edits, () -> edit(x, 0, 0, "n"));
            }
        });
        edge("Promise 15", NO_SUCH_USER_OR_MESSAGE, () -> {
            noSuchUser((x, user) -> x.edit(user, 0));
            noSuchMessage((x, message) -> x.edit(0, message));
            refused(NO_SUCH, Edges::town, x -> x.edit(2, 5));
        });
    }

    private static void editIsRefused() {
        String notAllowed = "Throws `UnsupportedOperationException` if the user is not its author, it is removed, or more than"
            + " 60 seconds have passed since it was said";
        edge("Promise 15", notAllowed, () -> {
            refused(NOT_ALLOWED, Edges::town, x -> x.edit(1, 0));
            refused(NOT_ALLOWED, Edges::town, x -> x.edit(0, 1));
            refused(NOT_ALLOWED, Edges::town, x -> x.edit(0, 3));
            due(1, () -> town().edit(0, 0));
        });
        edge("Promise 15", notAllowed, () -> {
            refused(NOT_ALLOWED, Edges::town, x -> x.edit(1, 4));
            due(1, () -> town().edit(1, 1));
        });
        edge("Promise 15", notAllowed, () -> {
            due(1, () -> later(59).edit(0, 0));
            due(1, () -> later(60).edit(0, 0));
            refused(NOT_ALLOWED, () -> later(61), x -> x.edit(0, 0));
            refused(NOT_ALLOWED, () -> later(600), x -> x.edit(0, 0));
            Inglenook x = later(60);
            x.edit(0, 0);
            write(x, 0, "again");
            x.pass(1);
            refuses(NOT_ALLOWED, () -> x.edit(0, 0));
        });
        String badState = "Throws `IllegalStateException` if the draft is empty, or the user has less than half a token";
        edge("Promise 15", badState, () -> {
            refused(BAD_STATE, () -> withDraft(0), x -> x.edit(0, 0));
            due(1, () -> withDraft(1).edit(0, 0));
            due(1, () -> withDraft(20).edit(0, 0));
        });
        edge("Promise 15", badState, () -> {
            refused(BAD_STATE, () -> poor(0), x -> x.edit(0, 0));
            refused(BAD_STATE, () -> poor(31), x -> x.edit(0, 3));
            due(1, () -> poor(32).edit(0, 0));
            due(1, () -> poor(33).edit(0, 3));
            Inglenook x = poor(32);
            x.edit(0, 0);
            due(0.0f, () -> x.tokens(0));
            due(1, () -> edit(filled(60), 0, 54, "n"));
        });
    }

    /** The user 0 said message 0 so many seconds ago. */
    private static Inglenook later(int seconds) {
        Inglenook x = roomOf(2);
        x.pass(100);
        say(x, 0, 0, "m");
        write(x, 0, "draft");
        x.pass(seconds);
        return x;
    }

    private static void remove() {
        edge("Promise 16", "Removes a message.", () -> {
            Inglenook x = town();
            x.remove(0, 0);
            due(true, () -> x.isRemoved(0));
            due("", () -> text(x, 0));
            due(false, () -> x.isRemoved(1));
            due("@a@c", () -> text(x, 1));
            due(5, () -> x.messages());
        });
        edge("Promise 16", "Returns the number of messages of its room that are not removed after the call.", () -> {
            Inglenook x = town();
            due(2, () -> x.remove(0, 1));
            due(1, () -> x.remove(0, 0));
            due(0, () -> x.remove(0, 2));
            due(0, () -> x.remove(3, 3));
            due(59, () -> filled(60).remove(0, 59));
        });
        edge("Promise 16", NO_SUCH_USER_OR_MESSAGE, () -> {
            noSuchUser((x, user) -> x.remove(user, 0));
            noSuchMessage((x, message) -> x.remove(0, message));
            refused(NO_SUCH, Edges::town, x -> x.remove(4, 5));
        });
    }

    private static void removeIsRefused() {
        String notAllowed = "Throws `UnsupportedOperationException` if the user is neither its author nor the owner of its"
            + " room, or it is removed already";
        edge("Promise 16", notAllowed, () -> {
            refused(NOT_ALLOWED, Edges::town, x -> x.remove(1, 0));
            refused(NOT_ALLOWED, Edges::town, x -> x.remove(2, 1));
            refused(NOT_ALLOWED, Edges::town, x -> x.remove(3, 0));
            refused(NOT_ALLOWED, Edges::town, x -> x.remove(0, 3));
            refused(NOT_ALLOWED, () -> withoutMember(0), x -> x.remove(0, 1));
            due(2, () -> town().remove(2, 2));
            due(2, () -> town().remove(0, 2));
            due(2, () -> withoutMember(0).remove(0, 0));
            due(2, () -> withoutMember(0).remove(1, 2));
            due(0, () -> later(600).remove(0, 0));
            due(3, () -> poor(0).remove(0, 3));
        });
        edge("Promise 16", notAllowed, () -> {
            refused(NOT_ALLOWED, Edges::town, x -> x.remove(1, 4));
            refused(NOT_ALLOWED, Edges::town, x -> x.remove(0, 4));
            refused(NOT_ALLOWED, Edges::town, x -> x.remove(2, 4));
        });
    }

    private static void read() {
        edge("Promise 17", "Reads all messages of a room, so that the mark is the number of all of them.", () -> {
            Inglenook x = town();
            due(2, () -> x.unread(0, 0));
            due(0.5f, () -> x.seenShare(1));
            x.read(0, 0);
            due(0, () -> x.unread(0, 0));
            due(0, () -> x.unreadByLog(0, 0));
            due(1.0f, () -> x.seenShare(1));
            due(1, () -> x.unread(0, 1));
            due(1, () -> x.unread(1, 0));
            x.say(1, 0);
            due(1, () -> x.unread(0, 0));
            due(1, () -> x.unreadByLog(0, 0));
        });
        edge("Promise 17", "Returns the number of messages that were unread.", () -> {
            due(0, () -> roomOf(1).read(0, 0));
            due(2, () -> town().read(0, 0));
            due(1, () -> town().read(1, 0));
            due(0, () -> town().read(2, 0));
            due(1, () -> town().read(0, 1));
            due(0, () -> town().read(3, 1));
            due(50, () -> filled(60).read(0, 0));
            Inglenook x = town();
            x.read(0, 0);
            due(0, () -> x.read(0, 0));
        });
        edge("Promise 17", NO_SUCH_USER_OR_ROOM, () -> {
            noSuchUser((x, user) -> x.read(user, 0));
            noSuchRoom((x, room) -> x.read(0, room));
            refused(NO_SUCH, Edges::town, x -> x.read(3, 3));
        });
        edge("Promise 17", NOT_A_MEMBER, () -> notAMember((x, user) -> x.read(user, 0)));
    }

    private static void readTo() {
        edge("Promise 18", "Sets the mark so that it counts the messages of a room up to a message and this one; the mark can"
            + " become less by this.", () -> {
                Inglenook x = monologue();
                for (int message : new int[] {59, 0, 1, 30, 29, 58, 59, 58, 1, 0}) {
                    x.readTo(1, message);
                    due(59 - message, () -> x.unread(1, 0));
                    due(59 - message, () -> x.unreadByLog(1, 0));
                    due(1.0f, () -> x.seenShare(message));
                    due(message == 59 ? (Object) NO_SUCH : 0.0f, () -> x.seenShare(message + 1));
                }
            });
        edge("Promise 18", "Returns the number of messages that are unread after the call.", () -> {
            due(2, () -> town().readTo(0, 0));
            due(1, () -> town().readTo(0, 1));
            due(0, () -> town().readTo(0, 2));
            due(0, () -> town().readTo(0, 4));
            due(1, () -> town().readTo(2, 0));
            due(0, () -> town().readTo(3, 3));
            due(0, () -> town().readTo(0, 3));
            due(59, () -> monologue().readTo(1, 0));
            due(0, () -> monologue().readTo(1, 59));
        });
        edge("Promise 18", NO_SUCH_USER_OR_MESSAGE, () -> {
            noSuchUser((x, user) -> x.readTo(user, 0));
            noSuchMessage((x, message) -> x.readTo(0, message));
            refused(NO_SUCH, Edges::town, x -> x.readTo(3, 5));
        });
        edge("Promise 18", "Throws `UnsupportedOperationException` if the user is not a member of the room of the message",
            () -> notAMember((x, user) -> x.readTo(user, 0)));
    }

    /** A room of two, in which the user 0 has said 60 messages. */
    private static Inglenook monologue() {
        Inglenook x = roomOf(2);
        x.setRefill(64);
        for (int message = 0; message < 60; message++) {
            if (message % 4 == 0) {
                x.pass(4);
            }
            say(x, 0, 0, "m");
        }
        return x;
    }
}
