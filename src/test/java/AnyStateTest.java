/** LANGUAGE.md's rule 7: beyond the 512 calls answers are free, but only the document's exceptions may come. */
final class AnyStateTest extends Checks {
    public static void main(String[] args) {
        afterManyEvents();
        afterTheTimeWrapsRound();
        end();
    }

    private static void afterManyEvents() {
        Inglenook x = roomOf(2);
        x.setRefill(64);
        for (int count = 0; count < 3000; count++) {
            x.leave(1, 0);
            x.join(1, 0);
            x.pass(1);
            x.type(0, '@');
            if (x.messages() < 60) {
                x.say(0, 0);
            }
            if (x.draftLength(0) == 20) {
                x.erase(0);
            }
            x.read(1, 0);
            returns(x);
        }
        due(60, () -> x.messages());
    }

    private static void afterTheTimeWrapsRound() {
        Inglenook x = roomOf(2);
        say(x, 0, 0, "@b");
        for (int count = 0; count < 8000000; count++) {
            x.pass(600);
            if (count % 100000 == 0) {
                returns(x);
            }
        }
        returns(x);
    }

    /** Calls that have no reason to refuse here; the run ends with what they throw, if they do. */
    private static void returns(Inglenook x) {
        x.unread(1, 0);
        x.unreadByLog(1, 0);
        x.mentionsByLog(1, 0);
        x.unreadMentions(1, 0);
        x.seenShare(0);
        double activity = x.activity(0);
        due(true, () -> activity >= 0.0 && activity <= 60.0);
        x.activityBits(0);
        x.tokenBits(0);
        x.present(0);
        x.eventsOf('m');
    }
}
