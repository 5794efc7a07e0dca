import java.util.ArrayList;
import java.util.NoSuchElementException;

/** A chat room server: users join rooms, say, edit and remove messages, reply, mention each other and read. */
public final class Inglenook {
    private static final int MAX_USERS = 6;
    private static final int MAX_ROOMS = 4;
    private static final int MAX_MESSAGES = 60;
    private static final int MAX_EVENTS = 512;
    private static final int MAX_LENGTH = 20;
    private static final int FIRST_CODE = 32;
    private static final int LAST_CODE = 126;
    private static final int MAX_SECONDS = 600;
    private static final int FIRST_REFILL = 8;
    private static final int MAX_REFILL = 64;
    private static final int MAX_TOKENS = 4;
    private static final int ACTIVE_SECONDS = 30;
    private static final int IDLE_SECONDS = 180;
    private static final int EDIT_SECONDS = 60;

    private static final char REGISTERED = 'r';
    private static final char OPENED = 'o';
    private static final char JOINED = 'j';
    private static final char LEFT = 'l';
    private static final char SAID = 's';
    private static final char EDITED = 'e';
    private static final char REMOVED = 'x';
    private static final char READ = 'm';
    private static final char PASSED = 'p';
    private static final String KINDS = "rojlsexmp";

    private static final int NONE = -1;

    private final ArrayList<User> allUsers;
    private final ArrayList<Room> allRooms;
    private final ArrayList<Message> allMessages;
    private final ArrayList<Event> log;
    private final Replay replay;
    private int now;
    private int refill;

    public Inglenook() {
        allUsers = new ArrayList<>();
        allRooms = new ArrayList<>();
        allMessages = new ArrayList<>();
        log = new ArrayList<>();
        replay = new Replay();
        now = 0;
        refill = FIRST_REFILL;
    }

    public int register() throws IllegalStateException {
        int number = allUsers.size();
        if (number >= MAX_USERS) {
            throw new IllegalStateException("there are 6 users");
        }
        allUsers.add(new User(number, now));
        note(REGISTERED, number, NONE, NONE, 0);
        return number;
    }

    public int beat(int user) throws NoSuchElementException {
        see(knownUser(user));
        return now;
    }

    public int pass(int seconds) throws IllegalArgumentException {
        if (seconds < 1 || seconds > MAX_SECONDS) {
            throw new IllegalArgumentException("the seconds are not 1 to 600");
        }
        float gain = (float) seconds * (float) refill / 64.0f;
        for (int number = 0; number < allUsers.size(); number++) {
            allUsers.get(number).gainTokens(gain);
        }
        now += seconds;
        note(PASSED, NONE, NONE, NONE, 0);
        return now;
    }

    public int setRefill(int refill) throws IllegalArgumentException {
        if (refill < 0 || refill > MAX_REFILL) {
            throw new IllegalArgumentException("the refill is not 0 to 64");
        }
        int before = this.refill;
        this.refill = refill;
        return before;
    }

    public int open(int user) throws NoSuchElementException, IllegalStateException {
        User opener = knownUser(user);
        int number = allRooms.size();
        if (number >= MAX_ROOMS) {
            throw new IllegalStateException("there are 4 rooms");
        }
        Room opened = new Room(number);
        opened.admit(opener);
        allRooms.add(opened);
        note(OPENED, user, number, NONE, 0);
        see(opener);
        return number;
    }

    public int join(int user, int room) throws NoSuchElementException, IllegalStateException {
        User joiner = knownUser(user);
        Room joined = knownRoom(room);
        if (joined.memberFor(joiner) != null) {
            throw new IllegalStateException("the user is a member");
        }
        joined.admit(joiner);
        note(JOINED, user, room, NONE, 0);
        see(joiner);
        return joined.members.size();
    }

    public int leave(int user, int room) throws NoSuchElementException, UnsupportedOperationException {
        User leaver = knownUser(user);
        Room left = knownRoom(room);
        left.dismiss(requireMember(leaver, left));
        note(LEFT, user, room, NONE, 0);
        see(leaver);
        return left.members.size();
    }

    public int type(int user, char character)
            throws NoSuchElementException, IllegalArgumentException, IllegalStateException {
        User writer = knownUser(user);
        writer.draft.put(writer.draft.size, character);
        see(writer);
        return writer.draft.size;
    }

    public int insert(int user, int index, char character)
            throws NoSuchElementException, IndexOutOfBoundsException, IllegalArgumentException,
            IllegalStateException {
        User writer = knownUser(user);
        writer.draft.put(index, character);
        see(writer);
        return writer.draft.size;
    }

    public char erase(int user) throws NoSuchElementException, IllegalStateException {
        User writer = knownUser(user);
        char erased = writer.draft.dropLast();
        see(writer);
        return erased;
    }

    public int reverse(int user) throws NoSuchElementException {
        User writer = knownUser(user);
        writer.draft.turnRound();
        see(writer);
        return writer.draft.size;
    }

    public int say(int user, int room)
            throws NoSuchElementException, UnsupportedOperationException, IllegalStateException {
        User speaker = knownUser(user);
        Room place = knownRoom(room);
        requireMember(speaker, place);
        return post(speaker, place, null);
    }

    public int reply(int user, int message)
            throws NoSuchElementException, UnsupportedOperationException, IllegalStateException {
        User speaker = knownUser(user);
        Message answered = knownMessage(message);
        requireMember(speaker, answered.room);
        if (answered.removed) {
            throw new UnsupportedOperationException("the message is removed");
        }
        return post(speaker, answered.room, answered);
    }

    public int edit(int user, int message)
            throws NoSuchElementException, UnsupportedOperationException, IllegalStateException {
        User editor = knownUser(user);
        Message edited = knownMessage(message);
        if (edited.author != editor || edited.removed || now - edited.time > EDIT_SECONDS) {
            throw new UnsupportedOperationException("the user cannot edit the message any more");
        }
        if (editor.draft.size == 0 || editor.tokens < 0.5f) {
            throw new IllegalStateException("there is no draft or less than half a token");
        }
        editor.tokens -= 0.5f;
        edited.takeText(editor.draft);
        edited.edits++;
        note(EDITED, user, edited.room.number, edited.rank, edited.text.letterMask());
        see(editor);
        return edited.edits;
    }

    public int remove(int user, int message) throws NoSuchElementException, UnsupportedOperationException {
        User remover = knownUser(user);
        Message gone = knownMessage(message);
        if (gone.author != remover && !gone.room.isOwnedBy(remover) || gone.removed) {
            throw new UnsupportedOperationException("the user cannot remove the message");
        }
        gone.vanish();
        note(REMOVED, user, gone.room.number, gone.rank, 0);
        see(remover);
        return gone.room.countStanding();
    }

    public int read(int user, int room) throws NoSuchElementException, UnsupportedOperationException {
        Room place = knownRoom(room);
        Member reader = requireMember(knownUser(user), place);
        int before = place.countUnread(reader, false);
        moveMark(reader, place, place.messages.size());
        return before;
    }

    public int readTo(int user, int message) throws NoSuchElementException, UnsupportedOperationException {
        Message last = knownMessage(message);
        Member reader = requireMember(knownUser(user), last.room);
        moveMark(reader, last.room, last.rank + 1);
        return last.room.countUnread(reader, false);
    }

    public int users() {
        return allUsers.size();
    }

    public int rooms() {
        return allRooms.size();
    }

    public int messages() {
        return allMessages.size();
    }

    public int time() {
        return now;
    }

    public char presence(int user) throws NoSuchElementException {
        return presenceOf(knownUser(user));
    }

    public float tokens(int user) throws NoSuchElementException {
        return knownUser(user).tokens;
    }

    public int tokenBits(int user) throws NoSuchElementException {
        return bitsOfFloat(knownUser(user).tokens);
    }

    public int draftLength(int user) throws NoSuchElementException {
        return knownUser(user).draft.size;
    }

    public char draftAt(int user, int index) throws NoSuchElementException, IndexOutOfBoundsException {
        return knownUser(user).draft.signAt(index);
    }

    public int members(int room) throws NoSuchElementException {
        return knownRoom(room).members.size();
    }

    public int memberAt(int room, int rank) throws NoSuchElementException, IndexOutOfBoundsException {
        Room place = knownRoom(room);
        if (rank < 0 || rank >= place.members.size()) {
            throw new IndexOutOfBoundsException("there is no such member");
        }
        return place.members.get(rank).user.number;
    }

    public int present(int room) throws NoSuchElementException {
        Room place = knownRoom(room);
        int found = 0;
        for (int rank = 0; rank < place.members.size(); rank++) {
            if (presenceOf(place.members.get(rank).user) == 'a') {
                found++;
            }
        }
        return found;
    }

    public int owner(int room) throws NoSuchElementException, IllegalStateException {
        Room place = knownRoom(room);
        if (place.members.isEmpty()) {
            throw new IllegalStateException("the room has no members");
        }
        return place.members.get(0).user.number;
    }

    public int countOf(int room) throws NoSuchElementException {
        return knownRoom(room).messages.size();
    }

    public int messageAt(int room, int rank) throws NoSuchElementException, IndexOutOfBoundsException {
        Room place = knownRoom(room);
        if (rank < 0 || rank >= place.messages.size()) {
            throw new IndexOutOfBoundsException("there is no such message in the room");
        }
        return place.messages.get(rank).number;
    }

    public int rankOf(int message) throws NoSuchElementException {
        return knownMessage(message).rank;
    }

    public int author(int message) throws NoSuchElementException {
        return knownMessage(message).author.number;
    }

    public int roomOf(int message) throws NoSuchElementException {
        return knownMessage(message).room.number;
    }

    public int length(int message) throws NoSuchElementException {
        return knownMessage(message).text.size;
    }

    public char charAt(int message, int index) throws NoSuchElementException, IndexOutOfBoundsException {
        return knownMessage(message).text.signAt(index);
    }

    public int edits(int message) throws NoSuchElementException {
        return knownMessage(message).edits;
    }

    public boolean isRemoved(int message) throws NoSuchElementException {
        return knownMessage(message).removed;
    }

    public int parent(int message) throws NoSuchElementException, IllegalStateException {
        Message above = knownMessage(message).parent;
        if (above == null) {
            throw new IllegalStateException("the message has no parent");
        }
        return above.number;
    }

    public int depth(int message) throws NoSuchElementException {
        return knownMessage(message).depth;
    }

    public int threadSize(int message) throws NoSuchElementException {
        return knownMessage(message).threadSize;
    }

    public int threadAt(int message, int rank) throws NoSuchElementException, IndexOutOfBoundsException {
        Message top = knownMessage(message);
        if (rank < 0 || rank >= top.threadSize) {
            throw new IndexOutOfBoundsException("there is no such message in the thread");
        }
        return findInThread(top, rank).number;
    }

    public boolean mentions(int message, int user) throws NoSuchElementException {
        return knownMessage(message).isMentioning(knownUser(user));
    }

    public int unread(int user, int room) throws NoSuchElementException, UnsupportedOperationException {
        return unreadInRoom(user, room, false);
    }

    public int unreadByLog(int user, int room) throws NoSuchElementException, UnsupportedOperationException {
        return unreadInLog(user, room, false);
    }

    public int unreadMentions(int user, int room) throws NoSuchElementException, UnsupportedOperationException {
        return unreadInRoom(user, room, true);
    }

    public int mentionsByLog(int user, int room) throws NoSuchElementException, UnsupportedOperationException {
        return unreadInLog(user, room, true);
    }

    public int events() {
        return log.size();
    }

    public int eventsOf(char kind) throws IllegalArgumentException {
        if (KINDS.indexOf(kind) < 0) {
            throw new IllegalArgumentException("there is no such kind");
        }
        int found = 0;
        for (int index = 0; index < log.size(); index++) {
            if (log.get(index).kind == kind) {
                found++;
            }
        }
        return found;
    }

    public float seenShare(int message) throws NoSuchElementException, ArithmeticException {
        Message shown = knownMessage(message);
        Room place = shown.room;
        int others = 0;
        int readers = 0;
        for (int rank = 0; rank < place.members.size(); rank++) {
            Member member = place.members.get(rank);
            if (member.user != shown.author) {
                others++;
                if (shown.rank < member.mark) {
                    readers++;
                }
            }
        }
        if (others == 0) {
            throw new ArithmeticException("there are no members but the author");
        }
        return (float) readers / (float) others;
    }

    public double activity(int user) throws NoSuchElementException {
        return activityOf(knownUser(user));
    }

    public long activityBits(int user) throws NoSuchElementException {
        return bitsOfDouble(activityOf(knownUser(user)));
    }

    private User knownUser(int user) {
        if (user < 0 || user >= allUsers.size()) {
            throw new NoSuchElementException("there is no such user");
        }
        return allUsers.get(user);
    }

    private Room knownRoom(int room) {
        if (room < 0 || room >= allRooms.size()) {
            throw new NoSuchElementException("there is no such room");
        }
        return allRooms.get(room);
    }

    private Message knownMessage(int message) {
        if (message < 0 || message >= allMessages.size()) {
            throw new NoSuchElementException("there is no such message");
        }
        return allMessages.get(message);
    }

    private static Member requireMember(User user, Room room) {
        Member member = room.memberFor(user);
        if (member == null) {
            throw new UnsupportedOperationException("the user is not a member of the room");
        }
        return member;
    }

    private void see(User user) {
        user.lastSeen = now;
    }

    private char presenceOf(User user) {
        int away = now - user.lastSeen;
        if (away <= ACTIVE_SECONDS) {
            return 'a';
        }
        return away <= IDLE_SECONDS ? 'i' : 'o';
    }

    private int post(User speaker, Room place, Message parent) {
        int number = allMessages.size();
        if (speaker.draft.size == 0 || speaker.tokens < 1.0f || number >= MAX_MESSAGES) {
            throw new IllegalStateException("there is no draft, less than 1 token or no room for a message");
        }
        speaker.tokens -= 1.0f;
        Message said = new Message(number, speaker, place, place.messages.size(), parent, now);
        said.takeText(speaker.draft);
        allMessages.add(said);
        place.messages.add(said);
        growThreads(said);
        note(SAID, speaker.number, place.number, said.rank, said.text.letterMask());
        see(speaker);
        return number;
    }

    private static void growThreads(Message said) {
        for (Message above = said.parent; above != null; above = above.parent) {
            above.threadSize++;
        }
    }

    /**
     * Going down from the top one pass over the numbers is enough, because a reply has a greater number than
     * its parent, and what precedes the thread of a reply is its parent and the threads of earlier replies.
     */
    private Message findInThread(Message top, int rank) {
        Message found = top;
        int left = rank;
        for (int number = top.number + 1; number < allMessages.size() && left > 0; number++) {
            Message next = allMessages.get(number);
            if (next.parent == found) {
                if (left <= next.threadSize) {
                    found = next;
                    left--;
                } else {
                    left -= next.threadSize;
                }
            }
        }
        return found;
    }

    private void moveMark(Member reader, Room place, int mark) {
        reader.mark = mark;
        note(READ, reader.user.number, place.number, mark - 1, 0);
        see(reader.user);
    }

    private int unreadInRoom(int user, int room, boolean mentionsOnly) {
        Room place = knownRoom(room);
        return place.countUnread(requireMember(knownUser(user), place), mentionsOnly);
    }

    private int unreadInLog(int user, int room, boolean mentionsOnly) {
        requireMember(knownUser(user), knownRoom(room));
        replay.start(user);
        for (int index = 0; index < log.size(); index++) {
            Event event = log.get(index);
            if (event.room == room) {
                replay.follow(event);
            }
        }
        return replay.countUnread(mentionsOnly);
    }

    private void note(char kind, int user, int room, int rank, int letters) {
        if (log.size() < MAX_EVENTS) {
            log.add(new Event(kind, user, room, rank, letters));
        }
    }

    private double activityOf(User user) {
        double sum = 0.0;
        for (int number = 0; number < allMessages.size(); number++) {
            Message said = allMessages.get(number);
            int divisor = 1 + (now - said.time);
            if (said.author == user && !said.removed && divisor > 0) {
                sum += 1.0 / (double) divisor;
            }
        }
        return sum;
    }

    // LANGUAGE.md leaves out Float.floatToIntBits and Double.doubleToLongBits, so the bits are found by
    // arithmetic, exactly: scaling by 2 and taking 1 off a number from 1 to 2 lose nothing.
    private static int bitsOfFloat(float value) {
        if (value <= 0.0f) {
            return 0;
        }
        float scaled = value;
        int exponent = 0;
        while (scaled >= 2.0f && exponent < 127) {
            scaled = scaled / 2.0f;
            exponent++;
        }
        while (scaled < 1.0f && exponent > -126) {
            scaled = scaled * 2.0f;
            exponent--;
        }
        int fraction = (int) ((scaled - 1.0f) * (float) (1 << 23));
        return ((exponent + 127) << 23) + fraction;
    }

    private static long bitsOfDouble(double value) {
        if (value <= 0.0) {
            return 0L;
        }
        double scaled = value;
        int exponent = 0;
        while (scaled >= 2.0 && exponent < 1023) {
            scaled = scaled / 2.0;
            exponent++;
        }
        while (scaled < 1.0 && exponent > -1022) {
            scaled = scaled * 2.0;
            exponent--;
        }
        long fraction = (long) ((scaled - 1.0) * (double) (1L << 52));
        return ((long) (exponent + 1023) << 52) + fraction;
    }

    /** A draft, or the text of a message. */
    private static final class Text {
        private final char[] signs;
        private int size;

        Text() {
            signs = new char[MAX_LENGTH];
            size = 0;
        }

        void put(int index, char sign) {
            if (index < 0 || index > size) {
                throw new IndexOutOfBoundsException("there is no such index");
            }
            if (sign < FIRST_CODE || sign > LAST_CODE) {
                throw new IllegalArgumentException("the code is not 32 to 126");
            }
            if (size >= MAX_LENGTH) {
                throw new IllegalStateException("the draft has 20 characters");
            }
            for (int to = size; to > index; to--) {
                signs[to] = signs[to - 1];
            }
            signs[index] = sign;
            size++;
        }

        char dropLast() {
            if (size == 0) {
                throw new IllegalStateException("the draft is empty");
            }
            size--;
            return signs[size];
        }

        char signAt(int index) {
            if (index < 0 || index >= size) {
                throw new IndexOutOfBoundsException("there is no such index");
            }
            return signs[index];
        }

        void turnRound() {
            for (int low = 0, high = size - 1; low < high; low++, high--) {
                char kept = signs[low];
                signs[low] = signs[high];
                signs[high] = kept;
            }
        }

        void takeAllOf(Text other) {
            for (int index = 0; index < other.size; index++) {
                signs[index] = other.signs[index];
            }
            size = other.size;
            other.size = 0;
        }

        void drop() {
            size = 0;
        }

        int letterMask() {
            int mask = 0;
            for (int index = 1; index < size; index++) {
                int user = signs[index] - 'a';
                if (signs[index - 1] == '@' && user >= 0 && user < MAX_USERS) {
                    mask |= 1 << user;
                }
            }
            return mask;
        }
    }

    private static final class User {
        private final int number;
        private final Text draft;
        private float tokens;
        private int lastSeen;

        User(int number, int now) {
            this.number = number;
            draft = new Text();
            tokens = (float) MAX_TOKENS;
            lastSeen = now;
        }

        void gainTokens(float gain) {
            float sum = tokens + gain;
            tokens = sum < (float) MAX_TOKENS ? sum : (float) MAX_TOKENS;
        }

        int bit() {
            return 1 << number;
        }
    }

    /** A user for as long as it stays in a room: the mark goes with it. */
    private static final class Member {
        private final User user;
        private int mark;

        Member(User user, int mark) {
            this.user = user;
            this.mark = mark;
        }
    }

    private static final class Room {
        private final int number;
        private final ArrayList<Member> members;
        private final ArrayList<Message> messages;

        Room(int number) {
            this.number = number;
            members = new ArrayList<>();
            messages = new ArrayList<>();
        }

        /** Null if the user is not a member. */
        Member memberFor(User user) {
            for (int rank = 0; rank < members.size(); rank++) {
                Member member = members.get(rank);
                if (member.user == user) {
                    return member;
                }
            }
            return null;
        }

        boolean isOwnedBy(User user) {
            return !members.isEmpty() && members.get(0).user == user;
        }

        void admit(User user) {
            members.add(new Member(user, messages.size()));
        }

        void dismiss(Member leaver) {
            for (int rank = 0; rank < members.size(); rank++) {
                if (members.get(rank) == leaver) {
                    members.remove(rank);
                    return;
                }
            }
        }

        int memberMask() {
            int mask = 0;
            for (int rank = 0; rank < members.size(); rank++) {
                mask |= members.get(rank).user.bit();
            }
            return mask;
        }

        int countStanding() {
            int found = 0;
            for (int rank = 0; rank < messages.size(); rank++) {
                if (!messages.get(rank).removed) {
                    found++;
                }
            }
            return found;
        }

        int countUnread(Member reader, boolean mentionsOnly) {
            int found = 0;
            for (int rank = 0; rank < messages.size(); rank++) {
                Message message = messages.get(rank);
                boolean unread = rank >= reader.mark && !message.removed && message.author != reader.user;
                if (unread && (!mentionsOnly || message.isMentioning(reader.user))) {
                    found++;
                }
            }
            return found;
        }
    }

    private static final class Message {
        private final int number;
        private final User author;
        private final Room room;
        private final int rank;
        private final Message parent;
        private final int time;
        private final int depth;
        private final Text text;
        private int threadSize;
        private int mentionMask;
        private int edits;
        private boolean removed;

        Message(int number, User author, Room room, int rank, Message parent, int time) {
            this.number = number;
            this.author = author;
            this.room = room;
            this.rank = rank;
            this.parent = parent;
            this.time = time;
            depth = parent == null ? 0 : parent.depth + 1;
            text = new Text();
            threadSize = 1;
            mentionMask = 0;
            edits = 0;
            removed = false;
        }

        void takeText(Text draft) {
            text.takeAllOf(draft);
            // Who is a member counts at this time, so it is kept here and not looked up later.
            mentionMask = text.letterMask() & room.memberMask() & ~author.bit();
        }

        void vanish() {
            text.drop();
            mentionMask = 0;
            removed = true;
        }

        boolean isMentioning(User user) {
            return (mentionMask & user.bit()) != 0;
        }
    }

    /** The rank is that of the message that was said, edited, removed or read last, and NONE without one. */
    private static final class Event {
        private final char kind;
        private final int user;
        private final int room;
        private final int rank;
        private final int letters;

        Event(char kind, int user, int room, int rank, int letters) {
            this.kind = kind;
            this.user = user;
            this.room = room;
            this.rank = rank;
            this.letters = letters;
        }
    }

    /** What the events of a room tell of it and of one reader; the rows are made once for all replays. */
    private static final class Replay {
        private final int[] authors;
        private final int[] mentionMasks;
        private final boolean[] removed;
        private int reader;
        private int count;
        private int memberMask;
        private int mark;

        Replay() {
            authors = new int[MAX_MESSAGES];
            mentionMasks = new int[MAX_MESSAGES];
            removed = new boolean[MAX_MESSAGES];
            reader = NONE;
        }

        void start(int reader) {
            this.reader = reader;
            count = 0;
            memberMask = 0;
            mark = 0;
        }

        void follow(Event event) {
            switch (event.kind) {
                case OPENED:
                case JOINED:
                    enter(event);
                    break;
                case LEFT:
                    memberMask &= ~(1 << event.user);
                    break;
                case SAID:
                    append(event);
                    break;
                case EDITED:
                    change(event);
                    break;
                case REMOVED:
                    strike(event);
                    break;
                case READ:
                    if (event.user == reader) {
                        mark = event.rank + 1;
                    }
                    break;
                default:
                    break;
            }
        }

        void enter(Event event) {
            memberMask |= 1 << event.user;
            if (event.user == reader) {
                mark = count;
            }
        }

        void append(Event event) {
            if (count < MAX_MESSAGES) {
                authors[count] = event.user;
                mentionMasks[count] = event.letters & memberMask & ~(1 << event.user);
                removed[count] = false;
                count++;
            }
        }

        void change(Event event) {
            if (event.rank >= 0 && event.rank < count) {
                mentionMasks[event.rank] = event.letters & memberMask & ~(1 << event.user);
            }
        }

        void strike(Event event) {
            if (event.rank >= 0 && event.rank < count) {
                removed[event.rank] = true;
            }
        }

        int countUnread(boolean mentionsOnly) {
            int found = 0;
            for (int rank = mark; rank >= 0 && rank < count; rank++) {
                boolean wanted = !mentionsOnly || (mentionMasks[rank] >> reader & 1) != 0;
                if (!removed[rank] && authors[rank] != reader && wanted) {
                    found++;
                }
            }
            return found;
        }
    }
}
