import java.lang.reflect.Field;
import java.util.List;

/** Promises 5, 11 and 16: what a card answers, what it writes, and where it loses power. */
public final class CardTest {
    public static void main(String[] args) throws ReflectiveOperationException {
        begin();
        counterAtItsEnd();
        rightAndWrongPins();
        withoutTries();
        asked();
        askedWithoutHost();
        wayInAnswers();
        sealsOfTwoCards();
        end();
        endRefused();
        lastAtTwoCounters();
        stages();
        powerAtBegin();
        powerAtPin();
        powerAtAsk();
        powerAtEnd();
        powerCounts();
        powerRefused();
        told();
        Due.end();
    }

    private static Rig oneCard(long single, int most) {
        Rig rig = new Rig();
        rig.x.card(1234, single, most, 1000);
        rig.x.terminal(0, 0);
        return rig;
    }

    private static void tellsOf(String name, Rig rig, int counter, int tries, int row, int stage) {
        Due.is(name + " counter", rig.x.told(0, 0), counter);
        Due.is(name + " tries", rig.x.told(0, 1), tries);
        Due.is(name + " row", rig.x.told(0, 2), row);
        Due.is(name + " stage", rig.x.told(0, 3), stage);
    }

    private static void begin() {
        Rig rig = oneCard(100, 1);
        for (int i = 1; i <= 300; i++) {
            Due.is("BEGIN", rig.begin(0, 4294967295L), 1);
            Due.is("CARD card", rig.newest(Rig.F_CARD), 0);
            Due.is("CARD counter", rig.newest(Rig.F_COUNTER), i);
            Due.is("CARD seal", rig.newest(Rig.F_SEAL), i);
            tellsOf("BEGIN", rig, i, 3, 0, 1);
            rig.dropAll();
        }
    }

    /** No run of calls comes so far, so the counter is set behind the object's back. */
    private static void counterAtItsEnd() throws ReflectiveOperationException {
        Rig rig = oneCard(100, 1);
        Object card = ((List<?>) part(part(rig.x, "world"), "cards")).get(0);
        Field counter = card.getClass().getDeclaredField("counter");
        counter.setAccessible(true);
        counter.setInt(card, 59999);
        Due.is("BEGIN at 59999", rig.begin(0, 5), 1);
        Due.is("CARD counter", rig.newest(Rig.F_COUNTER), 60000);
        rig.ask(0, 10, 5, 0, 1);
        Due.is("BEGIN at 60000", rig.begin(0, 5), 0);
        tellsOf("BEGIN at 60000", rig, 60000, 3, 0, 2);
    }

    private static Object part(Object owner, String name) throws ReflectiveOperationException {
        Field field = owner.getClass().getDeclaredField(name);
        field.setAccessible(true);
        return field.get(owner);
    }

    private static void rightAndWrongPins() {
        Rig rig = oneCard(100, 1);
        Due.is("PIN in stage 0", rig.pin(0, 1234), 0);
        Due.is("no try is gone", rig.x.told(0, 1), 3);
        rig.begin(0, 5);
        Due.is("a wrong PIN", rig.pin(0, 1235), 1);
        Due.is("PINNED 0", rig.newest(Rig.F_WAY), 0);
        tellsOf("a wrong PIN", rig, 1, 2, 0, 1);
        rig.pin(0, 1233);
        Due.is("PINNED 0", rig.newest(Rig.F_WAY), 0);
        tellsOf("two wrong PINs", rig, 1, 1, 0, 1);
        Due.is("the right PIN", rig.pin(0, 1234), 1);
        Due.is("PINNED 1", rig.newest(Rig.F_WAY), 1);
        tellsOf("the right PIN", rig, 1, 3, 0, 1);
        rig.pin(0, 1234 + 32768);
        Due.is("a PIN beyond 9999", rig.newest(Rig.F_WAY), 0);
    }

    private static void withoutTries() {
        Rig rig = oneCard(100, 1);
        rig.begin(0, 5);
        for (int i = 0; i < 3; i++) {
            rig.pin(0, 1);
        }
        tellsOf("three wrong PINs", rig, 1, 0, 0, 1);
        Due.is("the right PIN is too late", rig.pin(0, 1234), 1);
        Due.is("PINNED 2", rig.newest(Rig.F_WAY), 2);
        tellsOf("without tries", rig, 1, 0, 0, 1);
        rig.ask(0, 10, 5, 0, 1);
        Due.is("ANSWER 0 without tries", rig.newest(Rig.F_ANSWER), 0);
        Due.is("way 2", rig.newest(Rig.F_WAY), 2);
        tellsOf("ANSWER 0", rig, 1, 0, 0, 0);
        rig.begin(0, 5);
        rig.ask(0, 10, 5, 0, 2);
        Due.is("ANSWER 0 though 2 is asked", rig.newest(Rig.F_ANSWER), 0);
        Due.is("way 0 after a new BEGIN", rig.newest(Rig.F_WAY), 0);
        tellsOf("tries stay", rig, 2, 0, 0, 0);
    }

    private static int answerTo(long single, int most, long amount, int wanted) {
        Rig rig = oneCard(single, most);
        rig.begin(0, 5);
        Due.is("ASK", rig.ask(0, amount, 5, 0, wanted), 1);
        Due.is("ANSWER", rig.newestKind(), Rig.ANSWER);
        int answer = (int) rig.newest(Rig.F_ANSWER);
        tellsOf("ASK", rig, 1, 3, answer == 2 ? 1 : 0, answer == 1 ? 2 : 0);
        return answer;
    }

    private static void asked() {
        Due.is("0 asked", answerTo(100, 9, 10, 0), 0);
        Due.is("1 asked", answerTo(100, 9, 10, 1), 1);
        Due.is("2 asked", answerTo(100, 9, 10, 2), 2);
        Due.is("3 asked", answerTo(100, 9, 10, 3), 1);
        Due.is("255 asked", answerTo(100, 9, 10, 255), 1);
        Due.is("at SINGLE", answerTo(100, 9, 100, 2), 2);
        Due.is("above SINGLE", answerTo(100, 9, 101, 2), 1);
        Due.is("far above SINGLE", answerTo(1000000000L, 9, 1L << 39, 2), 1);
        Due.is("MOST 0", answerTo(100, 0, 10, 2), 1);
        Due.is("MOST 1", answerTo(100, 1, 10, 2), 2);
        Due.is("amount 0", answerTo(0, 1, 0, 2), 2);
    }

    private static void askedWithoutHost() {
        Rig rig = oneCard(100, 2);
        for (int i = 1; i <= 3; i++) {
            rig.begin(0, i);
            rig.ask(0, 10, i, 0, 2);
            Due.is("the row has an end", rig.newest(Rig.F_ANSWER), i <= 2 ? 2 : 1);
            tellsOf("the row", rig, i, 3, Math.min(i, 2), i <= 2 ? 0 : 2);
        }
    }

    private static void wayInAnswers() {
        int[] pins = {-1, 1234, 1};
        for (int way = 0; way < 3; way++) {
            Rig rig = oneCard(100, 2);
            rig.begin(0, 9);
            if (way > 0) {
                rig.pin(0, pins[way]);
            }
            rig.ask(0, 10, 9, 0, 1);
            Due.is("ANSWER way", rig.newest(Rig.F_WAY), way);
            Due.is("ANSWER counter", rig.newest(Rig.F_COUNTER), 1);
        }
    }

    /** Two cards seal the same row: each has a seal of its own. */
    private static void sealsOfTwoCards() {
        Rig rig = oneCard(100, 1);
        rig.x.card(1, 100, 1, 100);
        rig.begin(0, 5);
        rig.begin(1, 5);
        rig.ask(0, 10, 5, 0, 1);
        Due.is("the seal of card 0", rig.newest(Rig.F_SEAL), 3);
        rig.ask(1, 10, 5, 0, 1);
        Due.is("the seal of card 1", rig.newest(Rig.F_SEAL), 4);
        Due.is("P14 seals", rig.x.count(4), 4);
    }

    /** A card that answered 2 once, and then 1; the END with the host's word waits. */
    private static Rig beforeEnd() {
        Rig rig = new Rig();
        rig.x.card(1234, 100, 1, 500);
        rig.x.terminal(50, 80);
        rig.x.purchase(0, 0, 40, 0);
        rig.deliver(4);
        rig.x.purchase(0, 0, 40, 0);
        rig.deliver(6);
        tellsOf("before END", rig, 2, 3, 1, 2);
        return rig;
    }

    private static void end() {
        Rig rig = beforeEnd();
        Due.is("END", rig.x.deliver(0), 1);
        Due.is("LAST", rig.newestKind(), Rig.LAST);
        Due.is("LAST 2", rig.newest(Rig.F_ANSWER), 2);
        tellsOf("END", rig, 2, 3, 0, 0);
        rig.deliver(1);
        Due.is("approved", rig.x.outcome(0), 1);
    }

    private static void endRefused() {
        int[][] changes = {{Rig.F_WORD, 0}, {Rig.F_WORD, 2}, {Rig.F_SEAL, 0}, {Rig.F_SEAL, 1}, {Rig.F_SEAL, 1000}};
        for (int[] change : changes) {
            Rig rig = beforeEnd();
            rig.change(0, change[0], change[1]);
            Due.is("END is taken", rig.x.deliver(0), 1);
            Due.is("LAST 0", rig.newest(Rig.F_ANSWER), 0);
            tellsOf("END refused", rig, 2, 3, 1, 0);
            rig.deliver(1);
            Due.is("refused", rig.x.outcome(0), 3);
        }
        Rig rig = beforeEnd();
        long seal = rig.newest(Rig.F_SEAL);
        rig.dropAll();
        rig.begin(0, 1);
        rig.ask(0, 40, 1, 0, 1);
        rig.feedCard(0, Rig.END, Rig.F_SEAL, seal, Rig.F_WORD, 1);
        Due.is("a word for another counter", rig.newest(Rig.F_ANSWER), 0);
    }

    /** The same amount, un and terminal at two counters: each LAST has a seal of its own. */
    private static void lastAtTwoCounters() {
        Rig rig = oneCard(100, 1);
        long[] seals = new long[2];
        for (int i = 0; i < 2; i++) {
            rig.begin(0, 5);
            rig.ask(0, 10, 5, 0, 1);
            rig.feedCard(0, Rig.END, Rig.F_SEAL, 0, Rig.F_WORD, 0);
            Due.is("LAST 0", rig.newest(Rig.F_ANSWER), 0);
            seals[i] = rig.newest(Rig.F_SEAL);
        }
        Due.is("the seal of the first LAST", seals[0], 3);
        Due.is("the seal of the second LAST", seals[1], 6);
    }

    private static void stages() {
        Rig rig = oneCard(100, 1);
        Due.is("ASK in stage 0", rig.ask(0, 1, 1, 0, 1), 0);
        Due.is("END in stage 0", rig.feedCard(0, Rig.END, Rig.F_SEAL, 1, Rig.F_WORD, 1), 0);
        rig.begin(0, 1);
        Due.is("END in stage 1", rig.feedCard(0, Rig.END, Rig.F_SEAL, 1, Rig.F_WORD, 1), 0);
        rig.ask(0, 1, 1, 0, 1);
        Due.is("PIN in stage 2", rig.pin(0, 1), 0);
        Due.is("ASK in stage 2", rig.ask(0, 1, 1, 0, 1), 0);
        tellsOf("stage 2", rig, 1, 3, 0, 2);
        Due.is("BEGIN in stage 2", rig.begin(0, 1), 1);
        tellsOf("stage 1 again", rig, 2, 3, 0, 1);
        Due.is("what is thrown away has no answer", rig.x.count(2), 3);
    }

    private static void powerAtBegin() {
        Rig rig = oneCard(100, 1);
        rig.begin(0, 1);
        rig.ask(0, 1, 1, 0, 1);
        rig.dropAll();
        rig.x.power(0, 0);
        Due.is("P11 it was taken", rig.begin(0, 1), 1);
        Due.is("P11 nothing is answered", rig.x.count(2), 0);
        tellsOf("P11 at BEGIN", rig, 1, 3, 0, 0);
        Due.is("P11 nothing is sealed", rig.x.count(4), 2);
        rig.begin(0, 1);
        tellsOf("P11 once", rig, 2, 3, 0, 1);
    }

    private static void powerAtPin() {
        int[] pins = {1, 1234, 1234, 1};
        int[] writes = {0, 0, 1, 1};
        int[] tries = {3, 3, 2, 2};
        for (int i = 0; i < 4; i++) {
            Rig rig = oneCard(100, 1);
            rig.begin(0, 1);
            rig.dropAll();
            rig.x.power(0, writes[i]);
            Due.is("P11 it was taken", rig.pin(0, pins[i]), 1);
            boolean lost = i < 3;
            Due.is("P11 answers to PIN", rig.x.count(2), lost ? 0 : 1);
            tellsOf("P11 at PIN", rig, 1, tries[i], 0, lost ? 0 : 1);
        }
        Rig rig = oneCard(100, 1);
        rig.begin(0, 1);
        for (int i = 0; i < 3; i++) {
            rig.pin(0, 1);
        }
        rig.x.power(0, 0);
        rig.pin(0, 1);
        Due.is("P11 without tries nothing is written", rig.newest(Rig.F_WAY), 2);
        tellsOf("P11 without tries", rig, 1, 0, 0, 1);
    }

    private static void powerAtAsk() {
        Rig rig = oneCard(100, 1);
        rig.begin(0, 1);
        rig.dropAll();
        rig.x.power(0, 0);
        Due.is("P11 it was taken", rig.ask(0, 1, 1, 0, 2), 1);
        Due.is("P11 no ANSWER", rig.x.count(2), 0);
        tellsOf("P11 at ASK", rig, 1, 3, 0, 0);
        Due.is("P11 nothing is sealed", rig.x.count(4), 1);
        rig.begin(0, 1);
        rig.x.power(0, 0);
        rig.ask(0, 1, 1, 0, 1);
        Due.is("P11 an answer of 1 is not written", rig.newest(Rig.F_ANSWER), 1);
        tellsOf("P11 not yet", rig, 2, 3, 0, 2);
    }

    private static void powerAtEnd() {
        Rig rig = beforeEnd();
        rig.x.power(0, 0);
        int seals = rig.x.count(4);
        Due.is("P11 it was taken", rig.x.deliver(0), 1);
        Due.is("P11 no LAST", rig.x.count(2), 0);
        tellsOf("P11 at END", rig, 2, 3, 1, 0);
        Due.is("P11 nothing is sealed", rig.x.count(4), seals);
        Due.is("P11 the debit stays", rig.x.count(3), 1);
        Rig refused = beforeEnd();
        refused.x.power(0, 0);
        refused.change(0, Rig.F_WORD, 0);
        refused.deliver(1);
        Due.is("P11 a LAST 0 is not written", refused.newestKind(), Rig.LAST);
    }

    private static void powerCounts() {
        for (int n = 0; n <= 9; n++) {
            Rig rig = oneCard(100, 1);
            Due.is("P11 power", rig.x.power(0, n), true);
            for (int i = 0; i < 12; i++) {
                rig.begin(0, i);
                Due.is("P11 lost at " + i, rig.newestKind() == Rig.CARD, i != n);
                rig.dropAll();
            }
            Due.is("P11 one write was not done", rig.x.told(0, 0), 11);
        }
        Rig anew = oneCard(100, 1);
        anew.x.power(0, 1);
        anew.begin(0, 1);
        anew.x.power(0, 1);
        anew.begin(0, 1);
        Due.is("P11 told anew", anew.x.told(0, 0), 2);
        anew.begin(0, 1);
        Due.is("P11 told anew, and lost", anew.x.told(0, 0), 2);
        anew.x.card(1, 1, 1, 1);
        anew.x.power(1, 0);
        anew.begin(0, 1);
        Due.is("P11 another card", anew.x.told(0, 0), 3);
    }

    private static void powerRefused() {
        Rig rig = oneCard(100, 1);
        Due.is("P11 card below", rig.x.power(-1, 0), false);
        Due.is("P11 card above", rig.x.power(1, 0), false);
        Due.is("P11 n below", rig.x.power(0, -1), false);
        Due.is("P11 n above", rig.x.power(0, 10), false);
        Due.is("P11 extremes", rig.x.power(Integer.MAX_VALUE, Integer.MIN_VALUE), false);
        rig.begin(0, 1);
        Due.is("P11 nothing was told", rig.x.told(0, 0), 1);
    }

    private static void told() {
        Rig rig = oneCard(100, 1);
        Due.is("P16 card below", rig.x.told(-1, 0), -1);
        Due.is("P16 card above", rig.x.told(1, 0), -1);
        Due.is("P16 what below", rig.x.told(0, -1), -1);
        Due.is("P16 what above", rig.x.told(0, 4), -1);
        Due.is("P16 extremes", rig.x.told(Integer.MIN_VALUE, Integer.MAX_VALUE), -1);
    }
}
