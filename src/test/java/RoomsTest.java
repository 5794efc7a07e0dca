/** Promises 6 to 8, 20 and 28 to 31: rooms and their members. */
final class RoomsTest extends Checks {
    public static void main(String[] args) {
        roomsAreOpenedUpToFour();
        joiningKeepsTheOrder();
        leavingKeepsTheOrder();
        theOwnerIsTheFirstMember();
        wrongJoinsAreRefused();
        wrongLeavesAreRefused();
        presentCountsActiveMembers();
        wrongRoomsAreRefused();
        end();
    }

    private static void roomsAreOpenedUpToFour() {
        Inglenook x = server(2);
        for (int room = 0; room < 4; room++) {
            int number = room;
            refuses(NO_SUCH, () -> x.members(number));
            due(number, () -> x.open(number % 2));
            due(number + 1, () -> x.rooms());
            due(1, () -> x.members(number));
            due(number % 2, () -> x.memberAt(number, 0));
            due(number % 2, () -> x.owner(number));
            due(0, () -> x.countOf(number));
            due(0, () -> x.unread(number % 2, number));
        }
        refuses(BAD_STATE, () -> x.open(0));
        refuses(NO_SUCH, () -> x.open(2));
        refuses(NO_SUCH, () -> x.open(-1));
        due(4, () -> x.rooms());
        refuses(NO_SUCH, () -> x.members(4));
        Inglenook y = server(0);
        refuses(NO_SUCH, () -> y.open(0));
        due(0, () -> y.rooms());
    }

    private static void joiningKeepsTheOrder() {
        Inglenook x = server(6);
        x.open(3);
        x.open(1);
        due(2, () -> x.join(5, 0));
        due(3, () -> x.join(0, 0));
        due(4, () -> x.join(4, 0));
        due(2, () -> x.join(3, 1));
        due(5, () -> x.join(1, 0));
        due(6, () -> x.join(2, 0));
        due("350412", () -> members(x, 0));
        due("13", () -> members(x, 1));
        due(6, () -> x.members(0));
        refuses(NO_INDEX, () -> x.memberAt(0, 6));
        refuses(NO_INDEX, () -> x.memberAt(1, 2));
        refuses(NO_INDEX, () -> x.memberAt(0, -1));
        refuses(NO_INDEX, () -> x.memberAt(0, Integer.MIN_VALUE));
        refuses(NO_INDEX, () -> x.memberAt(0, Integer.MAX_VALUE));
    }

    private static void leavingKeepsTheOrder() {
        Inglenook x = roomOf(5);
        x.open(2);
        due(4, () -> x.leave(2, 0));
        due("0134", () -> members(x, 0));
        due("2", () -> members(x, 1));
        due(3, () -> x.leave(4, 0));
        due("013", () -> members(x, 0));
        due(2, () -> x.leave(0, 0));
        due("13", () -> members(x, 0));
        due(3, () -> x.join(0, 0));
        due("130", () -> members(x, 0));
        refuses(NO_INDEX, () -> x.memberAt(0, 3));
        due(2, () -> x.leave(1, 0));
        due(1, () -> x.leave(3, 0));
        due(0, () -> x.leave(0, 0));
        due("", () -> members(x, 0));
        refuses(NO_INDEX, () -> x.memberAt(0, 0));
        due(0, () -> x.members(0));
        due(0, () -> x.present(0));
        due(1, () -> x.join(4, 0));
        due("4", () -> members(x, 0));
    }

    private static void theOwnerIsTheFirstMember() {
        Inglenook x = roomOf(3);
        due(0, () -> x.owner(0));
        x.leave(0, 0);
        due(1, () -> x.owner(0));
        x.join(0, 0);
        due(1, () -> x.owner(0));
        x.leave(2, 0);
        due(1, () -> x.owner(0));
        x.leave(1, 0);
        due(0, () -> x.owner(0));
        x.leave(0, 0);
        refuses(BAD_STATE, () -> x.owner(0));
        x.join(2, 0);
        due(2, () -> x.owner(0));
    }

    private static void wrongJoinsAreRefused() {
        Inglenook x = server(3);
        x.open(0);
        refuses(BAD_STATE, () -> x.join(0, 0));
        x.join(1, 0);
        refuses(BAD_STATE, () -> x.join(1, 0));
        refuses(NO_SUCH, () -> x.join(3, 0));
        refuses(NO_SUCH, () -> x.join(-1, 0));
        refuses(NO_SUCH, () -> x.join(2, 1));
        refuses(NO_SUCH, () -> x.join(2, -1));
        refuses(NO_SUCH, () -> x.join(2, Integer.MAX_VALUE));
        refuses(NO_SUCH, () -> x.join(Integer.MIN_VALUE, Integer.MIN_VALUE));
        due("01", () -> members(x, 0));
    }

    private static void wrongLeavesAreRefused() {
        Inglenook x = roomOf(2);
        x.register();
        x.open(2);
        refuses(NOT_ALLOWED, () -> x.leave(2, 0));
        refuses(NOT_ALLOWED, () -> x.leave(0, 1));
        refuses(NO_SUCH, () -> x.leave(3, 0));
        refuses(NO_SUCH, () -> x.leave(-1, 0));
        refuses(NO_SUCH, () -> x.leave(0, 2));
        refuses(NO_SUCH, () -> x.leave(0, -1));
        refuses(NO_SUCH, () -> x.leave(2, 9));
        x.leave(1, 0);
        refuses(NOT_ALLOWED, () -> x.leave(1, 0));
        due("0", () -> members(x, 0));
        due("2", () -> members(x, 1));
    }

    private static void presentCountsActiveMembers() {
        Inglenook x = roomOf(3);
        x.register();
        x.open(3);
        due(3, () -> x.present(0));
        due(1, () -> x.present(1));
        x.pass(30);
        due(3, () -> x.present(0));
        x.beat(1);
        x.pass(1);
        due(1, () -> x.present(0));
        due(0, () -> x.present(1));
        x.beat(3);
        due(1, () -> x.present(0));
        due(1, () -> x.present(1));
        x.pass(150);
        due(0, () -> x.present(0));
        x.beat(0);
        x.beat(2);
        due(2, () -> x.present(0));
        x.leave(2, 0);
        due(1, () -> x.present(0));
    }

    private static void wrongRoomsAreRefused() {
        Inglenook x = roomOf(2);
        for (int room : new int[] {-1, 1, 4, Integer.MIN_VALUE, Integer.MAX_VALUE}) {
            refuses(NO_SUCH, () -> x.members(room));
            refuses(NO_SUCH, () -> x.memberAt(room, 0));
            refuses(NO_SUCH, () -> x.memberAt(room, -1));
            refuses(NO_SUCH, () -> x.present(room));
            refuses(NO_SUCH, () -> x.owner(room));
            refuses(NO_SUCH, () -> x.countOf(room));
            refuses(NO_SUCH, () -> x.messageAt(room, 0));
            refuses(NO_SUCH, () -> x.messageAt(room, -1));
        }
    }
}
