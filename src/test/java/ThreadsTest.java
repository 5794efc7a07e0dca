/** Promises 41 to 44: parents, depths and threads. */
final class ThreadsTest extends Checks {
    public static void main(String[] args) {
        aMessageAloneIsItsThread();
        threadsGoByTheNumbersOfReplies();
        removedMessagesStayInThreads();
        threadsStayInTheirRooms();
        sixtyMessagesInOneChain();
        fiftyNineRepliesToOneMessage();
        wrongMessagesAndRanksAreRefused();
        end();
    }

    private static void aMessageAloneIsItsThread() {
        Inglenook x = roomOf(1);
        say(x, 0, 0, "a");
        say(x, 0, 0, "b");
        refuses(BAD_STATE, () -> x.parent(0));
        refuses(BAD_STATE, () -> x.parent(1));
        due(0, () -> x.depth(0));
        due(0, () -> x.depth(1));
        due(1, () -> x.threadSize(0));
        due("0", () -> thread(x, 0));
        due("1", () -> thread(x, 1));
        refuses(NO_INDEX, () -> x.threadAt(0, 1));
        refuses(NO_INDEX, () -> x.threadAt(0, -1));
    }

    private static void threadsGoByTheNumbersOfReplies() {
        Inglenook x = roomOf(4);
        int[] parents = {-1, 0, 0, 1, -1, 2, 0, 3, 1, 4, 2, 0};
        String[] threads = {
            "0 1 3 7 8 2 5 10 6 11", "1 3 7 8", "2 5 10", "3 7", "4 9", "5", "6", "7", "8", "9", "10", "11"
        };
        int[] depths = {0, 1, 1, 2, 0, 2, 1, 3, 2, 1, 2, 1};
        for (int message = 0; message < parents.length; message++) {
            if (parents[message] < 0) {
                say(x, message % 4, 0, "s");
            } else {
                reply(x, message % 4, parents[message], "r");
            }
        }
        for (int message = 0; message < parents.length; message++) {
            int number = message;
            if (parents[number] < 0) {
                refuses(BAD_STATE, () -> x.parent(number));
            } else {
                due(parents[number], () -> x.parent(number));
            }
            due(depths[number], () -> x.depth(number));
            due(threads[number].split(" ").length, () -> x.threadSize(number));
            due(threads[number], () -> thread(x, number));
            refuses(NO_INDEX, () -> x.threadAt(number, threads[number].split(" ").length));
        }
    }

    private static void removedMessagesStayInThreads() {
        Inglenook x = roomOf(2);
        say(x, 0, 0, "a");
        reply(x, 1, 0, "b");
        reply(x, 0, 1, "c");
        reply(x, 1, 0, "d");
        x.remove(0, 1);
        due(4, () -> x.threadSize(0));
        due("0 1 2 3", () -> thread(x, 0));
        due("1 2", () -> thread(x, 1));
        due(0, () -> x.parent(1));
        due(1, () -> x.parent(2));
        due(2, () -> x.depth(2));
        x.remove(0, 0);
        due("0 1 2 3", () -> thread(x, 0));
        due(0, () -> x.parent(3));
        due(3, () -> reply(x, 0, 2, "e") - 1);
        due("0 1 2 4 3", () -> thread(x, 0));
        due(3, () -> x.depth(4));
    }

    private static void threadsStayInTheirRooms() {
        Inglenook x = roomOf(2);
        x.open(1);
        x.join(0, 1);
        say(x, 0, 0, "a");
        say(x, 1, 1, "b");
        reply(x, 1, 0, "c");
        reply(x, 0, 1, "d");
        due(0, () -> x.roomOf(2));
        due(1, () -> x.roomOf(3));
        due("0 2", () -> thread(x, 0));
        due("1 3", () -> thread(x, 1));
        x.leave(0, 0);
        due("0 2", () -> thread(x, 0));
    }

    private static void sixtyMessagesInOneChain() {
        Inglenook x = roomOf(1);
        x.setRefill(64);
        say(x, 0, 0, "a");
        for (int message = 1; message < 60; message++) {
            x.pass(1);
            reply(x, 0, message - 1, "r");
        }
        due(60, () -> x.threadSize(0));
        due(59, () -> x.depth(59));
        for (int message = 0; message < 60; message++) {
            int number = message;
            due(number, () -> x.threadAt(0, number));
            due(59, () -> x.threadAt(number, 59 - number));
            due(60 - number, () -> x.threadSize(number));
        }
        refuses(NO_INDEX, () -> x.threadAt(0, 60));
    }

    private static void fiftyNineRepliesToOneMessage() {
        Inglenook x = roomOf(1);
        x.setRefill(64);
        say(x, 0, 0, "a");
        for (int message = 1; message < 60; message++) {
            x.pass(1);
            reply(x, 0, 0, "r");
        }
        for (int message = 0; message < 60; message++) {
            int number = message;
            due(number, () -> x.threadAt(0, number));
            due(number == 0 ? 0 : 1, () -> x.depth(number));
            due(number == 0 ? 60 : 1, () -> x.threadSize(number));
        }
    }

    private static void wrongMessagesAndRanksAreRefused() {
        Inglenook x = roomOf(1);
        say(x, 0, 0, "a");
        reply(x, 0, 0, "b");
        for (int message : new int[] {-1, 2, 60, Integer.MIN_VALUE, Integer.MAX_VALUE}) {
            refuses(NO_SUCH, () -> x.parent(message));
            refuses(NO_SUCH, () -> x.depth(message));
            refuses(NO_SUCH, () -> x.threadSize(message));
            refuses(NO_SUCH, () -> x.threadAt(message, 0));
            refuses(NO_SUCH, () -> x.threadAt(message, -1));
        }
        for (int rank : new int[] {-1, 2, 60, Integer.MIN_VALUE, Integer.MAX_VALUE}) {
            refuses(NO_INDEX, () -> x.threadAt(0, rank));
        }
        refuses(NO_INDEX, () -> x.threadAt(1, 1));
    }
}
