/** Promises 9 to 12, 26 and 27: drafts. */
final class DraftsTest extends Checks {
    public static void main(String[] args) {
        typingAddsAtTheEnd();
        codesAreFrom32To126();
        aDraftHasTwentyCharacters();
        insertingGoesAheadOfAnIndex();
        insertRefusesInItsOrder();
        erasingTakesTheLast();
        reversingTurnsTheDraft();
        eachUserHasADraft();
        wrongUsersAndIndexesAreRefused();
        end();
    }

    private static void typingAddsAtTheEnd() {
        Inglenook x = server(1);
        due(0, () -> x.draftLength(0));
        refuses(NO_INDEX, () -> x.draftAt(0, 0));
        due(1, () -> x.type(0, 'b'));
        due(2, () -> x.type(0, 'a'));
        due(3, () -> x.type(0, 'b'));
        due("bab", () -> draft(x, 0));
        due('a', () -> x.draftAt(0, 1));
        due(3, () -> x.draftLength(0));
        refuses(NO_INDEX, () -> x.draftAt(0, 3));
        refuses(NO_INDEX, () -> x.draftAt(0, -1));
        refuses(NO_INDEX, () -> x.draftAt(0, 20));
        refuses(NO_INDEX, () -> x.draftAt(0, Integer.MIN_VALUE));
        refuses(NO_INDEX, () -> x.draftAt(0, Integer.MAX_VALUE));
    }

    private static void codesAreFrom32To126() {
        Inglenook x = server(2);
        for (int code : new int[] {0, 1, 10, 31, 127, 128, 255, 256, 288, 65535}) {
            refuses(BAD_ARGUMENT, () -> x.type(0, (char) code));
            refuses(BAD_ARGUMENT, () -> x.insert(0, 0, (char) code));
        }
        due(0, () -> x.draftLength(0));
        due(1, () -> x.type(0, ' '));
        due(2, () -> x.type(0, '~'));
        due(1, () -> x.insert(1, 0, (char) 126));
        due(2, () -> x.insert(1, 0, (char) 32));
        due(" ~", () -> draft(x, 0));
        due(" ~", () -> draft(x, 1));
        for (int code = 32; code <= 126; code++) {
            char sign = (char) code;
            due(3, () -> x.type(0, sign));
            due(sign, () -> x.erase(0));
        }
    }

    private static void aDraftHasTwentyCharacters() {
        Inglenook x = server(1);
        for (int count = 1; count <= 20; count++) {
            int length = count;
            due(length, () -> x.type(0, (char) ('a' + length)));
        }
        refuses(BAD_STATE, () -> x.type(0, 'z'));
        refuses(BAD_ARGUMENT, () -> x.type(0, (char) 31));
        refuses(BAD_ARGUMENT, () -> x.type(0, (char) 127));
        refuses(NO_SUCH, () -> x.type(1, 'z'));
        refuses(NO_SUCH, () -> x.type(-1, (char) 31));
        due("bcdefghijklmnopqrstu", () -> draft(x, 0));
        refuses(NO_INDEX, () -> x.draftAt(0, 20));
        due('u', () -> x.draftAt(0, 19));
        due('u', () -> x.erase(0));
        due(20, () -> x.insert(0, 0, '!'));
        due("!bcdefghijklmnopqrst", () -> draft(x, 0));
        due(20, () -> x.reverse(0));
        due("tsrqponmlkjihgfedcb!", () -> draft(x, 0));
        x.erase(0);
        due(20, () -> x.insert(0, 19, '?'));
        due("tsrqponmlkjihgfedcb?", () -> draft(x, 0));
    }

    private static void insertingGoesAheadOfAnIndex() {
        Inglenook x = server(1);
        due(1, () -> x.insert(0, 0, 'b'));
        due(2, () -> x.insert(0, 0, 'a'));
        due(3, () -> x.insert(0, 2, 'd'));
        due(4, () -> x.insert(0, 2, 'c'));
        due("abcd", () -> draft(x, 0));
        due(5, () -> x.insert(0, 1, '1'));
        due("a1bcd", () -> draft(x, 0));
        due(6, () -> x.type(0, 'e'));
        due("a1bcde", () -> draft(x, 0));
    }

    private static void insertRefusesInItsOrder() {
        Inglenook x = server(1);
        write(x, 0, "abc");
        refuses(NO_INDEX, () -> x.insert(0, 4, 'x'));
        refuses(NO_INDEX, () -> x.insert(0, -1, 'x'));
        refuses(NO_INDEX, () -> x.insert(0, Integer.MIN_VALUE, 'x'));
        refuses(NO_INDEX, () -> x.insert(0, Integer.MAX_VALUE, 'x'));
        refuses(NO_INDEX, () -> x.insert(0, 4, (char) 127));
        refuses(NO_SUCH, () -> x.insert(1, 4, (char) 127));
        refuses(NO_SUCH, () -> x.insert(-1, 0, 'x'));
        refuses(BAD_ARGUMENT, () -> x.insert(0, 3, (char) 127));
        due("abc", () -> draft(x, 0));
        write(x, 0, "defghijklmnopqrst");
        refuses(NO_INDEX, () -> x.insert(0, 21, 'x'));
        refuses(NO_INDEX, () -> x.insert(0, -1, (char) 0));
        refuses(BAD_ARGUMENT, () -> x.insert(0, 20, (char) 31));
        refuses(BAD_STATE, () -> x.insert(0, 20, 'x'));
        refuses(BAD_STATE, () -> x.insert(0, 0, 'x'));
        due("abcdefghijklmnopqrst", () -> draft(x, 0));
    }

    private static void erasingTakesTheLast() {
        Inglenook x = server(1);
        refuses(BAD_STATE, () -> x.erase(0));
        write(x, 0, "xyz");
        due('z', () -> x.erase(0));
        due("xy", () -> draft(x, 0));
        refuses(NO_INDEX, () -> x.draftAt(0, 2));
        due('y', () -> x.erase(0));
        due('x', () -> x.erase(0));
        refuses(BAD_STATE, () -> x.erase(0));
        due(0, () -> x.draftLength(0));
        due(1, () -> x.type(0, 'n'));
        due("n", () -> draft(x, 0));
    }

    private static void reversingTurnsTheDraft() {
        Inglenook x = server(1);
        due(0, () -> x.reverse(0));
        due(0, () -> x.draftLength(0));
        write(x, 0, "a");
        due(1, () -> x.reverse(0));
        due("a", () -> draft(x, 0));
        write(x, 0, "b");
        due(2, () -> x.reverse(0));
        due("ba", () -> draft(x, 0));
        write(x, 0, "12");
        due(4, () -> x.reverse(0));
        due("21ab", () -> draft(x, 0));
        write(x, 0, "c");
        due(5, () -> x.reverse(0));
        due("cba12", () -> draft(x, 0));
    }

    private static void eachUserHasADraft() {
        Inglenook x = roomOf(2);
        write(x, 0, "mine");
        write(x, 1, "yours");
        due("mine", () -> draft(x, 0));
        due("yours", () -> draft(x, 1));
        x.reverse(0);
        x.erase(1);
        due("enim", () -> draft(x, 0));
        due("your", () -> draft(x, 1));
        x.say(0, 0);
        due("", () -> draft(x, 0));
        due("your", () -> draft(x, 1));
        write(x, 0, "k");
        due("k", () -> draft(x, 0));
        due("enim", () -> text(x, 0));
    }

    private static void wrongUsersAndIndexesAreRefused() {
        Inglenook x = server(2);
        for (int user : new int[] {-1, 2, 6, Integer.MIN_VALUE, Integer.MAX_VALUE}) {
            refuses(NO_SUCH, () -> x.type(user, 'a'));
            refuses(NO_SUCH, () -> x.type(user, (char) 0));
            refuses(NO_SUCH, () -> x.insert(user, 0, 'a'));
            refuses(NO_SUCH, () -> x.erase(user));
            refuses(NO_SUCH, () -> x.reverse(user));
            refuses(NO_SUCH, () -> x.draftLength(user));
            refuses(NO_SUCH, () -> x.draftAt(user, 0));
            refuses(NO_SUCH, () -> x.draftAt(user, -1));
        }
    }
}
