import java.util.ArrayList;
import java.util.LinkedHashMap;
import java.util.List;
import java.util.NoSuchElementException;
import java.util.Set;
import java.util.TreeSet;

/** The document's words in the shortest Java, for RandomRunsTest: everything is found anew from what was said. */
public final class Model {
    private static final class Person {
        float tokens = 4;
        int seen;
        String draft = "";
    }

    private static final class Said {
        int author;
        int room;
        int time;
        int parent;
        int edits;
        String text;
        boolean removed;
        Set<Integer> membersThen;
    }

    private final List<Person> people = new ArrayList<>();
    /** For each room its members in the order of joining, each with its mark. */
    private final List<LinkedHashMap<Integer, Integer>> marks = new ArrayList<>();
    private final List<Said> all = new ArrayList<>();
    private final StringBuilder log = new StringBuilder();
    private int time = 0;
    private int refill = 8;

    private static void refuseIf(boolean condition, RuntimeException refusal) {
        if (condition) {
            throw refusal;
        }
    }

    private Person person(int user) {
        refuseIf(user < 0 || user >= people.size(), new NoSuchElementException());
        return people.get(user);
    }

    private LinkedHashMap<Integer, Integer> marksOf(int room) {
        refuseIf(room < 0 || room >= marks.size(), new NoSuchElementException());
        return marks.get(room);
    }

    private Said said(int message) {
        refuseIf(message < 0 || message >= all.size(), new NoSuchElementException());
        return all.get(message);
    }

    private LinkedHashMap<Integer, Integer> marksWith(int user, int room) {
        person(user);
        refuseIf(!marksOf(room).containsKey(user), new UnsupportedOperationException());
        return marksOf(room);
    }

    private List<Integer> numbersIn(int room) {
        List<Integer> numbers = new ArrayList<>();
        for (int message = 0; message < all.size(); message++) {
            if (all.get(message).room == room) {
                numbers.add(message);
            }
        }
        return numbers;
    }

    private <T> T seen(int user, T answer) {
        people.get(user).seen = time;
        return answer;
    }

    private <T> T logged(char kind, T answer) {
        log.append(kind);
        return answer;
    }

    public int register() {
        refuseIf(people.size() == 6, new IllegalStateException());
        people.add(new Person());
        return logged('r', seen(people.size() - 1, people.size() - 1));
    }

    public int beat(int user) {
        person(user);
        return seen(user, time);
    }

    public int pass(int seconds) {
        refuseIf(seconds < 1 || seconds > 600, new IllegalArgumentException());
        for (Person person : people) {
            person.tokens = Math.min(4f, person.tokens + (float) seconds * refill / 64f);
        }
        time += seconds;
        return logged('p', time);
    }

    public int setRefill(int next) {
        refuseIf(next < 0 || next > 64, new IllegalArgumentException());
        int before = refill;
        refill = next;
        return before;
    }

    public int open(int user) {
        person(user);
        refuseIf(marks.size() == 4, new IllegalStateException());
        LinkedHashMap<Integer, Integer> opened = new LinkedHashMap<>();
        opened.put(user, 0);
        marks.add(opened);
        return logged('o', seen(user, marks.size() - 1));
    }

    public int join(int user, int room) {
        person(user);
        refuseIf(marksOf(room).containsKey(user), new IllegalStateException());
        marks.get(room).put(user, numbersIn(room).size());
        return logged('j', seen(user, marks.get(room).size()));
    }

    public int leave(int user, int room) {
        marksWith(user, room).remove(user);
        return logged('l', seen(user, marks.get(room).size()));
    }

    public int type(int user, char character) {
        return insert(user, person(user).draft.length(), character);
    }

    public int insert(int user, int index, char character) {
        Person person = person(user);
        refuseIf(index < 0 || index > person.draft.length(), new IndexOutOfBoundsException());
        refuseIf(character < ' ' || character > '~', new IllegalArgumentException());
        refuseIf(person.draft.length() == 20, new IllegalStateException());
        person.draft = person.draft.substring(0, index) + character + person.draft.substring(index);
        return seen(user, person.draft.length());
    }

    public char erase(int user) {
        Person person = person(user);
        int length = person.draft.length();
        refuseIf(length == 0, new IllegalStateException());
        char last = person.draft.charAt(length - 1);
        person.draft = person.draft.substring(0, length - 1);
        return seen(user, last);
    }

    public int reverse(int user) {
        Person person = person(user);
        person.draft = new StringBuilder(person.draft).reverse().toString();
        return seen(user, person.draft.length());
    }

    private void take(int user, float price, Said message) {
        Person person = people.get(user);
        person.tokens -= price;
        message.text = person.draft;
        message.membersThen = new TreeSet<>(marks.get(message.room).keySet());
        person.draft = "";
    }

    private int add(int user, int room, int parent) {
        Person person = people.get(user);
        refuseIf(person.draft.isEmpty() || person.tokens < 1 || all.size() == 60, new IllegalStateException());
        Said message = new Said();
        message.author = user;
        message.room = room;
        message.time = time;
        message.parent = parent;
        take(user, 1f, message);
        all.add(message);
        return logged('s', seen(user, all.size() - 1));
    }

    public int say(int user, int room) {
        marksWith(user, room);
        return add(user, room, -1);
    }

    public int reply(int user, int message) {
        person(user);
        Said parent = said(message);
        marksWith(user, parent.room);
        refuseIf(parent.removed, new UnsupportedOperationException());
        return add(user, parent.room, message);
    }

    public int edit(int user, int message) {
        Person person = person(user);
        Said changed = said(message);
        refuseIf(changed.author != user, new UnsupportedOperationException());
        refuseIf(changed.removed, new UnsupportedOperationException());
        refuseIf(time > changed.time + 60, new UnsupportedOperationException());
        refuseIf(person.draft.isEmpty() || person.tokens < 0.5f, new IllegalStateException());
        take(user, 0.5f, changed);
        changed.edits++;
        return logged('e', seen(user, changed.edits));
    }

    public int remove(int user, int message) {
        person(user);
        Said gone = said(message);
        List<Integer> members = new ArrayList<>(marks.get(gone.room).keySet());
        boolean owner = !members.isEmpty() && members.get(0) == user;
        refuseIf(gone.author != user && !owner, new UnsupportedOperationException());
        refuseIf(gone.removed, new UnsupportedOperationException());
        gone.removed = true;
        gone.text = "";
        int left = (int) numbersIn(gone.room).stream().filter(number -> !all.get(number).removed).count();
        return logged('x', seen(user, left));
    }

    public int read(int user, int room) {
        int before = unread(user, room);
        marks.get(room).put(user, numbersIn(room).size());
        return logged('m', seen(user, before));
    }

    public int readTo(int user, int message) {
        person(user);
        int room = said(message).room;
        marksWith(user, room).put(user, numbersIn(room).indexOf(message) + 1);
        return logged('m', seen(user, unread(user, room)));
    }

    public int users() {
        return people.size();
    }

    public int rooms() {
        return marks.size();
    }

    public int messages() {
        return all.size();
    }

    public int time() {
        return time;
    }

    public char presence(int user) {
        int passed = time - person(user).seen;
        return passed > 180 ? 'o' : passed > 30 ? 'i' : 'a';
    }

    public float tokens(int user) {
        return person(user).tokens;
    }

    public int tokenBits(int user) {
        return Float.floatToIntBits(tokens(user));
    }

    public int draftLength(int user) {
        return person(user).draft.length();
    }

    private static char at(String text, int index) {
        refuseIf(index < 0 || index >= text.length(), new IndexOutOfBoundsException());
        return text.charAt(index);
    }

    private static int at(List<Integer> list, int index) {
        refuseIf(index < 0 || index >= list.size(), new IndexOutOfBoundsException());
        return list.get(index);
    }

    public char draftAt(int user, int index) {
        return at(person(user).draft, index);
    }

    public int members(int room) {
        return marksOf(room).size();
    }

    public int memberAt(int room, int rank) {
        return at(new ArrayList<>(marksOf(room).keySet()), rank);
    }

    public int present(int room) {
        return (int) marksOf(room).keySet().stream().filter(user -> presence(user) == 'a').count();
    }

    public int owner(int room) {
        refuseIf(marksOf(room).isEmpty(), new IllegalStateException());
        return memberAt(room, 0);
    }

    public int countOf(int room) {
        marksOf(room);
        return numbersIn(room).size();
    }

    public int messageAt(int room, int rank) {
        marksOf(room);
        return at(numbersIn(room), rank);
    }

    public int rankOf(int message) {
        return numbersIn(said(message).room).indexOf(message);
    }

    public int author(int message) {
        return said(message).author;
    }

    public int roomOf(int message) {
        return said(message).room;
    }

    public int length(int message) {
        return said(message).text.length();
    }

    public char charAt(int message, int index) {
        return at(said(message).text, index);
    }

    public int edits(int message) {
        return said(message).edits;
    }

    public boolean isRemoved(int message) {
        return said(message).removed;
    }

    public int parent(int message) {
        refuseIf(said(message).parent < 0, new IllegalStateException());
        return said(message).parent;
    }

    public int depth(int message) {
        return said(message).parent < 0 ? 0 : 1 + depth(said(message).parent);
    }

    private List<Integer> thread(int message) {
        List<Integer> thread = new ArrayList<>(List.of(message));
        for (int number = 0; number < all.size(); number++) {
            if (all.get(number).parent == message) {
                thread.addAll(thread(number));
            }
        }
        return thread;
    }

    public int threadSize(int message) {
        said(message);
        return thread(message).size();
    }

    public int threadAt(int message, int rank) {
        said(message);
        return at(thread(message), rank);
    }

    public boolean mentions(int message, int user) {
        person(user);
        Said told = said(message);
        return told.text.contains("@" + "abcdef".charAt(user)) && told.membersThen.contains(user)
            && told.author != user;
    }

    private int count(int user, int room, boolean mentionsOnly) {
        int mark = marksWith(user, room).get(user);
        int found = 0;
        for (int number : numbersIn(room)) {
            Said message = all.get(number);
            if (rankOf(number) >= mark && !message.removed && message.author != user
                && (!mentionsOnly || mentions(number, user))) {
                found++;
            }
        }
        return found;
    }

    public int unread(int user, int room) {
        return count(user, room, false);
    }

    public int unreadByLog(int user, int room) {
        return count(user, room, false);
    }

    public int unreadMentions(int user, int room) {
        return count(user, room, true);
    }

    public int mentionsByLog(int user, int room) {
        return count(user, room, true);
    }

    public int events() {
        return log.length();
    }

    public int eventsOf(char kind) {
        refuseIf("rojlsexmp".indexOf(kind) < 0, new IllegalArgumentException());
        return (int) log.chars().filter(event -> event == kind).count();
    }

    public float seenShare(int message) {
        Said shown = said(message);
        LinkedHashMap<Integer, Integer> others = new LinkedHashMap<>(marks.get(shown.room));
        others.remove(shown.author);
        refuseIf(others.isEmpty(), new ArithmeticException());
        int rank = rankOf(message);
        return (float) others.values().stream().filter(mark -> mark > rank).count() / (float) others.size();
    }

    public double activity(int user) {
        person(user);
        double sum = 0.0;
        for (Said message : all) {
            if (message.author == user && !message.removed) {
                sum += 1.0 / (1 + (time - message.time));
            }
        }
        return sum;
    }

    public long activityBits(int user) {
        return Double.doubleToLongBits(activity(user));
    }
}
