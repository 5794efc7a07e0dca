/** Promises 1 to 5, 19 and 22 to 25: users, the time, presence and tokens. */
final class UsersAndTimeTest extends Checks {
    public static void main(String[] args) {
        aNewObjectIsEmpty();
        usersAreRegisteredUpToSix();
        beatAnswersTheTime();
        passAddsSeconds();
        passRefusesWrongSeconds();
        presenceFollowsTheSeconds();
        presenceOfEachUserIsItsOwn();
        tokensStartAtFour();
        tokensIncreaseByTheRefill();
        tokensStayBelowFourAndOne();
        refillCountsWhenSecondsPass();
        setRefillRefusesWrongRefills();
        tokenBitsAreThoseOfTheFloat();
        wrongUsersAreRefused();
        end();
    }

    private static void aNewObjectIsEmpty() {
        Inglenook x = new Inglenook();
        due(0, () -> x.users());
        due(0, () -> x.rooms());
        due(0, () -> x.messages());
        due(0, () -> x.time());
        due(0, () -> x.events());
        due(8, () -> x.setRefill(8));
        refuses(NO_SUCH, () -> x.beat(0));
        refuses(NO_SUCH, () -> x.members(0));
        refuses(NO_SUCH, () -> x.author(0));
        Inglenook y = new Inglenook();
        x.register();
        due(0, () -> y.users());
    }

    private static void usersAreRegisteredUpToSix() {
        Inglenook x = new Inglenook();
        for (int user = 0; user < 6; user++) {
            int number = user;
            refuses(NO_SUCH, () -> x.beat(number));
            due(number, () -> x.register());
            due(number + 1, () -> x.users());
            due('a', () -> x.presence(number));
            due(0, () -> x.draftLength(number));
        }
        refuses(BAD_STATE, () -> x.register());
        refuses(BAD_STATE, () -> x.register());
        due(6, () -> x.users());
        refuses(NO_SUCH, () -> x.beat(6));
    }

    private static void beatAnswersTheTime() {
        Inglenook x = server(2);
        due(0, () -> x.beat(1));
        x.pass(7);
        due(7, () -> x.beat(1));
        due(7, () -> x.beat(0));
        due(7, () -> x.time());
    }

    private static void passAddsSeconds() {
        Inglenook x = new Inglenook();
        due(1, () -> x.pass(1));
        due(601, () -> x.pass(600));
        due(602, () -> x.pass(1));
        due(602, () -> x.time());
        due(1201, () -> x.pass(599));
        due(1201, () -> x.time());
        Inglenook y = new Inglenook();
        for (int calls = 1; calls <= 500; calls++) {
            int want = calls * 600;
            due(want, () -> y.pass(600));
        }
        due(300000, () -> y.time());
    }

    private static void passRefusesWrongSeconds() {
        Inglenook x = server(1);
        for (int seconds : new int[] {0, -1, 601, 602, Integer.MIN_VALUE, Integer.MAX_VALUE}) {
            refuses(BAD_ARGUMENT, () -> x.pass(seconds));
        }
        due(0, () -> x.time());
        due(0, () -> x.eventsOf('p'));
    }

    private static void presenceFollowsTheSeconds() {
        Inglenook x = server(1);
        x.pass(30);
        due('a', () -> x.presence(0));
        x.pass(1);
        due('i', () -> x.presence(0));
        x.pass(149);
        due('i', () -> x.presence(0));
        x.pass(1);
        due('o', () -> x.presence(0));
        x.pass(600);
        due('o', () -> x.presence(0));
        x.beat(0);
        due('a', () -> x.presence(0));
        x.pass(31);
        due('i', () -> x.presence(0));
    }

    private static void presenceOfEachUserIsItsOwn() {
        Inglenook x = server(1);
        x.pass(100);
        x.register();
        x.pass(81);
        due('o', () -> x.presence(0));
        due('i', () -> x.presence(1));
        x.beat(0);
        due('a', () -> x.presence(0));
        due('i', () -> x.presence(1));
    }

    private static void tokensStartAtFour() {
        Inglenook x = server(1);
        due(4.0f, () -> x.tokens(0));
        x.pass(600);
        due(4.0f, () -> x.tokens(0));
        x.register();
        due(4.0f, () -> x.tokens(1));
    }

    private static void tokensIncreaseByTheRefill() {
        Inglenook x = roomOf(2);
        for (int count = 0; count < 4; count++) {
            say(x, 0, 0, "x");
        }
        say(x, 1, 0, "y");
        due(0.0f, () -> x.tokens(0));
        x.pass(1);
        due(0.125f, () -> x.tokens(0));
        due(3.125f, () -> x.tokens(1));
        x.pass(3);
        due(0.5f, () -> x.tokens(0));
        due(8, () -> x.setRefill(1));
        x.pass(1);
        due(0.515625f, () -> x.tokens(0));
        x.pass(31);
        due(1.0f, () -> x.tokens(0));
        due(1, () -> x.setRefill(0));
        x.pass(600);
        due(1.0f, () -> x.tokens(0));
        due(0, () -> x.setRefill(64));
        x.pass(2);
        due(3.0f, () -> x.tokens(0));
        due(64, () -> x.setRefill(63));
        x.pass(1);
        due(3.984375f, () -> x.tokens(0));
        x.pass(1);
        due(4.0f, () -> x.tokens(0));
    }

    private static void tokensStayBelowFourAndOne() {
        Inglenook x = roomOf(2);
        say(x, 0, 0, "x");
        x.setRefill(64);
        x.pass(1);
        due(4.0f, () -> x.tokens(0));
        say(x, 0, 0, "x");
        x.pass(600);
        due(4.0f, () -> x.tokens(0));
        x.setRefill(0);
        for (int count = 0; count < 4; count++) {
            say(x, 0, 0, "x");
        }
        x.setRefill(1);
        x.pass(63);
        due(0.984375f, () -> x.tokens(0));
        write(x, 0, "x");
        refuses(BAD_STATE, () -> x.say(0, 0));
        refuses(BAD_STATE, () -> x.reply(0, 0));
        x.pass(1);
        due(6, () -> x.say(0, 0));
        due(0.0f, () -> x.tokens(0));
        due(4.0f, () -> x.tokens(1));
    }

    private static void refillCountsWhenSecondsPass() {
        Inglenook x = roomOf(1);
        for (int count = 0; count < 4; count++) {
            say(x, 0, 0, "x");
        }
        due(8, () -> x.setRefill(16));
        due(16, () -> x.setRefill(32));
        due(0.0f, () -> x.tokens(0));
        x.pass(2);
        x.setRefill(64);
        due(1.0f, () -> x.tokens(0));
        x.pass(2);
        x.setRefill(0);
        due(3.0f, () -> x.tokens(0));
    }

    private static void setRefillRefusesWrongRefills() {
        Inglenook x = server(1);
        for (int refill : new int[] {-1, 65, 66, Integer.MIN_VALUE, Integer.MAX_VALUE}) {
            refuses(BAD_ARGUMENT, () -> x.setRefill(refill));
        }
        due(8, () -> x.setRefill(0));
        due(0, () -> x.setRefill(64));
        due(64, () -> x.setRefill(1));
        due(1, () -> x.setRefill(63));
        due(63, () -> x.setRefill(63));
        due(0, () -> x.time());
    }

    private static void tokenBitsAreThoseOfTheFloat() {
        Inglenook x = roomOf(1);
        due(0x40800000, () -> x.tokenBits(0));
        x.setRefill(1);
        for (int count = 0; count < 4; count++) {
            say(x, 0, 0, "x");
            due(Float.floatToIntBits(3 - count), () -> x.tokenBits(0));
        }
        due(0, () -> x.tokenBits(0));
        for (int seconds = 3; seconds <= 255; seconds += 3) {
            x.pass(3);
            float tokens = seconds / 64.0f;
            due(Float.floatToIntBits(tokens), () -> x.tokenBits(0));
        }
        x.pass(1);
        due(4.0f, () -> x.tokens(0));
    }

    private static void wrongUsersAreRefused() {
        Inglenook x = server(2);
        for (int user : new int[] {-1, 2, 6, Integer.MIN_VALUE, Integer.MAX_VALUE}) {
            refuses(NO_SUCH, () -> x.beat(user));
            refuses(NO_SUCH, () -> x.presence(user));
            refuses(NO_SUCH, () -> x.tokens(user));
            refuses(NO_SUCH, () -> x.tokenBits(user));
        }
    }
}
