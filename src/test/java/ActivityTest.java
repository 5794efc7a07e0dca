/** Promises 53 and 54: the activity of a user and its bits. */
final class ActivityTest extends Checks {
    public static void main(String[] args) {
        activityStartsAtZero();
        eachMessageAddsItsPart();
        removedMessagesAddNothing();
        partsAreAddedInTheOrderOfNumbers();
        bitsAreThoseOfTheDouble();
        wrongUsersAreRefused();
        end();
    }

    private static void bothActivities(Inglenook x, int user, double want) {
        due(want, () -> x.activity(user));
        due(Double.doubleToLongBits(want), () -> x.activityBits(user));
    }

    private static void activityStartsAtZero() {
        Inglenook x = roomOf(2);
        bothActivities(x, 0, 0.0);
        x.pass(100);
        bothActivities(x, 0, 0.0);
        say(x, 0, 0, "a");
        bothActivities(x, 1, 0.0);
    }

    private static void eachMessageAddsItsPart() {
        Inglenook x = roomOf(2);
        x.open(1);
        x.pass(17);
        say(x, 0, 0, "a");
        bothActivities(x, 0, 1.0);
        x.pass(1);
        bothActivities(x, 0, 0.5);
        x.pass(1);
        bothActivities(x, 0, 1.0 / 3.0);
        reply(x, 1, 0, "b");
        bothActivities(x, 0, 1.0 / 3.0);
        bothActivities(x, 1, 1.0);
        say(x, 1, 1, "c");
        bothActivities(x, 1, 2.0);
        x.pass(2);
        edit(x, 0, 0, "d");
        bothActivities(x, 0, 0.2);
        bothActivities(x, 1, 1.0 / 3.0 + 1.0 / 3.0);
        x.leave(0, 0);
        bothActivities(x, 0, 0.2);
    }

    private static void removedMessagesAddNothing() {
        Inglenook x = roomOf(2);
        say(x, 0, 0, "a");
        x.pass(3);
        say(x, 0, 0, "b");
        bothActivities(x, 0, 1.25);
        x.remove(0, 0);
        bothActivities(x, 0, 1.0);
        x.remove(0, 1);
        bothActivities(x, 0, 0.0);
    }

    /** The waits are such that adding the parts the other way round gives another double. */
    private static void partsAreAddedInTheOrderOfNumbers() {
        int[] waits = {9, 9, 2, 9};
        Inglenook x = roomOf(1);
        x.setRefill(64);
        for (int wait : waits) {
            say(x, 0, 0, "a");
            x.pass(wait);
        }
        double forward = 0.0;
        double backward = 0.0;
        for (int message = 0; message < waits.length; message++) {
            forward += part(waits, message);
            backward += part(waits, waits.length - 1 - message);
        }
        boolean differing = forward != backward;
        due(true, () -> differing);
        bothActivities(x, 0, forward);
    }

    private static double part(int[] waits, int message) {
        int seconds = 0;
        for (int index = message; index < waits.length; index++) {
            seconds += waits[index];
        }
        return 1.0 / (1 + seconds);
    }

    private static void bitsAreThoseOfTheDouble() {
        Inglenook x = roomOf(1);
        for (int count = 0; count < 4; count++) {
            say(x, 0, 0, "a");
        }
        due(0x4010000000000000L, () -> x.activityBits(0));
        int time = 0;
        for (int seconds : new int[] {1, 1, 1, 1, 3, 600, 599, 13, 600, 600, 600, 77}) {
            x.pass(seconds);
            time += seconds;
            double part = 1.0 / (1 + time);
            bothActivities(x, 0, part + part + part + part);
        }
        for (int calls = 0; calls < 400; calls++) {
            x.pass(600);
            time += 600;
        }
        double part = 1.0 / (1 + time);
        bothActivities(x, 0, part + part + part + part);
    }

    private static void wrongUsersAreRefused() {
        Inglenook x = roomOf(2);
        for (int user : new int[] {-1, 2, 6, Integer.MIN_VALUE, Integer.MAX_VALUE}) {
            refuses(NO_SUCH, () -> x.activity(user));
            refuses(NO_SUCH, () -> x.activityBits(user));
        }
    }
}
