/** "Terms", the part A CARD: its tries, counter, row and stage, and what it answers to each kind. */
public final class CardTest {
    private static final String PART = "Terms, A CARD";

    public static void main(String[] args) {
        threeTries();
        stageAtFirst();
        writtenStays();
        stageDoesNotStay();
        counterBelowItsEnd();
        counterAtItsEnd();
        beginInEachStage();
        beginAnswers();
        pinOnlyInStageOne();
        pinWithoutTries();
        wrongPins();
        rightPins();
        pinsOfTwoBytes();
        askOnlyInStageOne();
        askWithoutTries();
        zeroIsAsked();
        amountAtMostSingle();
        rowBelowMost();
        otherwiseOne();
        answerHasItsWay();
        stageAfterAnswer();
        unAndTerminalAsAsked();
        endOnlyInStageTwo();
        endApproved();
        endRefused();
        endWithSealOfOthers();
        stageAfterEnd();
        lastIsSealedWithItsCounter();
        Due.end();
    }

    private static Rig oneCard(long single, int most) {
        Rig rig = new Rig();
        rig.x.card(1234, single, most, 1000);
        rig.x.terminal(0, 0);
        return rig;
    }

    private static Rig begun() {
        Rig rig = oneCard(100, 1);
        rig.begin(0, 5);
        rig.dropAll();
        return rig;
    }

    private static Rig withoutTries() {
        Rig rig = begun();
        for (int i = 0; i < 3; i++) {
            rig.pin(0, 1);
        }
        rig.dropAll();
        rig.cardIs("three wrong PINs", 1, 0, 0, 1);
        return rig;
    }

    /** A card that answered 2 once, and then 1; the END with the host's word waits. */
    static Rig beforeEnd() {
        Rig rig = Rig.usual();
        rig.x.purchase(0, 0, 40, 0);
        rig.deliver(4);
        rig.x.purchase(0, 0, 40, 0);
        rig.deliver(6);
        Due.is("END waits", rig.x.at(0, 0), Rig.END);
        rig.cardIs("before END", 2, 3, 1, 2);
        return rig;
    }

    private static void threeTries() {
        Due.sentence(PART, "3 TRIES at most");
        Rig rig = oneCard(100, 1);
        rig.cardIs("a new card", 0, 3, 0, 0);
        rig.begin(0, 5);
        rig.pin(0, 1234);
        rig.cardIs("the right PIN with all tries", 1, 3, 0, 1);
        rig.pin(0, 1);
        rig.pin(0, 1234);
        rig.pin(0, 1234);
        rig.cardIs("right PINs again", 1, 3, 0, 1);
    }

    private static void stageAtFirst() {
        Due.sentence(PART, "its STAGE (0 at first)");
        Rig rig = oneCard(100, 1);
        Due.is("stage", rig.x.told(0, 3), 0);
        Due.is("PIN", rig.pin(0, 1234), 0);
        Due.is("ASK", rig.ask(0, 1, 1, 0, 1), 0);
        Due.is("END", rig.end(0, 1, 1), 0);
        Due.is("nothing is answered", rig.x.count(2), 0);
    }

    private static void writtenStays() {
        Due.sentence(PART, "are WRITTEN one by one, and stay when power is lost");
        Rig rig = oneCard(100, 2);
        rig.begin(0, 5);
        rig.pin(0, 1);
        rig.ask(0, 10, 5, 0, 2);
        rig.begin(0, 5);
        rig.cardIs("before", 2, 2, 1, 1);
        rig.x.power(0, 0);
        rig.pin(0, 1234);
        rig.cardIs("after", 2, 2, 1, 0);
        rig.begin(0, 5);
        rig.pin(0, 1234);
        Due.is("its PIN stays, too", rig.newest(Rig.F_WAY), 1);
    }

    private static void stageDoesNotStay() {
        Due.sentence(PART, "its STAGE (0 at first), un, way and numbers do not (they are 0 then)");
        Rig rig = oneCard(100, 2);
        rig.begin(0, 5);
        rig.pin(0, 1234);
        rig.x.power(0, 0);
        rig.ask(0, 10, 5, 0, 2);
        Due.is("stage", rig.x.told(0, 3), 0);
        Due.is("ASK is thrown away", rig.ask(0, 10, 5, 0, 1), 0);
        Due.is("PIN is thrown away", rig.pin(0, 1234), 0);
        rig.begin(0, 5);
        rig.ask(0, 10, 5, 0, 1);
        Due.is("way", rig.newest(Rig.F_WAY), 0);
        Due.is("END is for what is asked now", rig.end(0, 1, 0), 1);
    }

    /** No run of 512 calls comes so far. */
    private static Rig withCounter(int counter) {
        Rig rig = oneCard(100, 1);
        if (!Inside.isKnown(rig.x)) {
            return null;
        }
        Inside.set(Inside.card(rig.x, 0), "counter", counter);
        return rig;
    }

    private static void counterBelowItsEnd() {
        Due.sentence(PART, "BEGIN, if the counter is below 60000");
        int[] counters = {0, 254, 255, 256, 32767, 32768, 59998, 59999};
        for (int counter : counters) {
            Rig rig = withCounter(counter);
            if (rig == null) {
                return;
            }
            Due.is("BEGIN at " + counter, rig.begin(0, 5), 1);
            Due.is("CARD", rig.newest(Rig.F_COUNTER), counter + 1);
            rig.cardIs("then", counter + 1, 3, 0, 1);
            rig.ask(0, 10, 5, 0, 1);
            Due.is("ANSWER", rig.newest(Rig.F_COUNTER), counter + 1);
        }
    }

    private static void counterAtItsEnd() {
        Due.sentence("Terms, the last lines", "a BEGIN at 60000 is thrown away");
        for (int stage = 0; stage <= 2; stage++) {
            Rig rig = withCounter(59999);
            if (rig == null) {
                return;
            }
            Due.is("BEGIN at 59999", rig.begin(0, 5), 1);
            if (stage != 1) {
                rig.ask(0, 10, 5, 0, stage == 0 ? 0 : 1);
            }
            rig.dropAll();
            rig.x.power(0, 0);
            Due.is("BEGIN at 60000", rig.begin(0, 5), 0);
            Due.is("nothing is answered", rig.x.count(2), 0);
            rig.cardIs("it stays as it was", 60000, 3, 0, stage);
        }
    }

    private static void beginInEachStage() {
        Due.sentence(PART, "(in whatever stage the card is): it writes the counter, 1 more; stage 1, way 0");
        for (int stage = 0; stage <= 2; stage++) {
            Rig rig = oneCard(100, 1);
            if (stage > 0) {
                rig.begin(0, 5);
                rig.pin(0, 1234);
            }
            if (stage > 1) {
                rig.ask(0, 10, 5, 0, 1);
            }
            Due.is("stage", rig.x.told(0, 3), stage);
            Due.is("BEGIN in stage " + stage, rig.begin(0, 6), 1);
            rig.cardIs("then", stage > 0 ? 2 : 1, 3, 0, 1);
            rig.ask(0, 10, 6, 0, 1);
            Due.is("way", rig.newest(Rig.F_WAY), 0);
        }
    }

    private static void beginAnswers() {
        Due.sentence(PART, "answers CARD with its number, its counter, and its seal of 2, card, counter, un");
        Rig rig = new Rig();
        for (int card = 0; card < 16; card++) {
            rig.x.card(0, 0, 0, 0);
        }
        rig.x.terminal(0, 0);
        for (int card = 0; card < 16; card += 15) {
            long un = rig.x.purchase(0, card, 1, 0);
            rig.deliver(1);
            Due.is("card", rig.newest(Rig.F_CARD), card);
            Due.is("counter", rig.newest(Rig.F_COUNTER), 1);
            Due.is("CARD is taken", rig.x.deliver(0), 1);
            Due.is("its seal is good", rig.x.outcome(0), 0);
            rig.dropAll();
            rig.begin(card, un + 1);
            rig.x.purchase(0, card, 1, 0);
            Due.is("CARD for another un is taken", rig.x.deliver(0), 1);
            Due.is("its seal is not good", rig.x.outcome(0), 3);
            rig.dropAll();
        }
    }

    private static void pinOnlyInStageOne() {
        Due.sentence(PART, "PIN, in stage 1");
        Rig rig = oneCard(100, 1);
        Due.is("in stage 0", rig.pin(0, 1), 0);
        rig.cardIs("no try is gone", 0, 3, 0, 0);
        rig.begin(0, 5);
        Due.is("in stage 1", rig.pin(0, 1), 1);
        rig.ask(0, 10, 5, 0, 1);
        Due.is("in stage 2", rig.pin(0, 1234), 0);
        rig.cardIs("no try is back", 1, 2, 0, 2);
        rig.begin(0, 5);
        rig.ask(0, 10, 5, 0, 2);
        Due.is("in stage 0 again", rig.pin(0, 1234), 0);
        rig.cardIs("no try is back", 2, 2, 1, 0);
    }

    private static void pinWithoutTries() {
        Due.sentence(PART, "without tries left: PINNED 2, way 2");
        int[] pins = {1234, 1};
        for (int pin : pins) {
            Rig rig = withoutTries();
            rig.x.power(0, 0);
            Due.is("it is taken", rig.pin(0, pin), 1);
            Due.is("PINNED 2, and nothing is written", rig.newest(Rig.F_WAY), 2);
            rig.cardIs("no try is left", 1, 0, 0, 1);
            rig.ask(0, 10, 5, 0, 1);
            Due.is("way 2", rig.newest(Rig.F_WAY), 2);
        }
        Rig later = withoutTries();
        later.begin(0, 5);
        later.cardIs("a new BEGIN brings no tries", 2, 0, 0, 1);
        later.pin(0, 1234);
        Due.is("PINNED 2 after a new BEGIN", later.newest(Rig.F_WAY), 2);
        later.ask(0, 10, 5, 0, 1);
        Due.is("way 2 after a new BEGIN", later.newest(Rig.F_WAY), 2);
    }

    private static void wrongPins() {
        Due.sentence(PART, "Otherwise it writes tries, 1 less");
        Rig rig = begun();
        for (int left = 2; left >= 0; left--) {
            Due.is("a wrong PIN", rig.pin(0, 1235), 1);
            Due.is("PINNED 0", rig.newest(Rig.F_WAY), 0);
            rig.cardIs("tries left", 1, left, 0, 1);
        }
        Rig way = begun();
        way.pin(0, 1234);
        way.pin(0, 1233);
        way.ask(0, 10, 5, 0, 1);
        Due.is("way 2 after a right and a wrong PIN", way.newest(Rig.F_WAY), 2);
    }

    private static void rightPins() {
        Due.sentence(PART, "if it is its PIN, writes tries 3, way 1, PINNED 1");
        for (int wrong = 0; wrong <= 2; wrong++) {
            Rig rig = begun();
            for (int i = 0; i < wrong; i++) {
                rig.pin(0, 1);
            }
            Due.is("the right PIN after wrong ones", rig.pin(0, 1234), 1);
            Due.is("PINNED 1", rig.newest(Rig.F_WAY), 1);
            rig.cardIs("all tries are back", 1, 3, 0, 1);
            rig.ask(0, 10, 5, 0, 1);
            Due.is("way 1", rig.newest(Rig.F_WAY), 1);
        }
    }

    private static void pinsOfTwoBytes() {
        Due.sentence(PART, "if it is its PIN");
        int[] pins = {0, 255, 256, 9999};
        int[] typed = {0, 255, 256, 511, 1270, 9743, 9999, 10000, 32768, 42767, 65535};
        for (int pin : pins) {
            for (int what : typed) {
                Rig rig = new Rig();
                rig.x.card(pin, 0, 0, 0);
                rig.x.terminal(0, 0);
                rig.begin(0, 5);
                rig.pin(0, what);
                Due.is("PIN " + pin + " typed " + what, rig.newest(Rig.F_WAY), what == pin ? 1 : 0);
            }
        }
    }

    private static void askOnlyInStageOne() {
        Due.sentence(PART, "ASK, in stage 1");
        Rig rig = oneCard(100, 9);
        Due.is("in stage 0", rig.ask(0, 1, 1, 0, 2), 0);
        rig.cardIs("nothing is written", 0, 3, 0, 0);
        rig.begin(0, 1);
        Due.is("in stage 1", rig.ask(0, 1, 1, 0, 1), 1);
        Due.is("in stage 2", rig.ask(0, 1, 1, 0, 2), 0);
        rig.cardIs("nothing is written", 1, 3, 0, 2);
        rig.begin(0, 1);
        rig.ask(0, 1, 1, 0, 2);
        Due.is("in stage 0 again", rig.ask(0, 1, 1, 0, 2), 0);
        rig.cardIs("nothing more is written", 2, 3, 1, 0);
    }

    private static int answerTo(Rig rig, long amount, int wanted) {
        rig.dropAll();
        Due.is("ASK is taken", rig.ask(0, amount, 5, 0, wanted), 1);
        Due.is("ANSWER", rig.newestKind(), Rig.ANSWER);
        return (int) rig.newest(Rig.F_ANSWER);
    }

    private static void askWithoutTries() {
        Due.sentence(PART, "It answers 0 without tries");
        int[] wanted = {0, 1, 2, 3, 255};
        for (int what : wanted) {
            Rig rig = withoutTries();
            Due.is("asked " + what, answerTo(rig, 10, what), 0);
            rig.cardIs("nothing is written", 1, 0, 0, 0);
        }
        Rig last = begun();
        last.pin(0, 1);
        last.pin(0, 1);
        Due.is("with one try left", answerTo(last, 10, 2), 2);
    }

    private static void zeroIsAsked() {
        Due.sentence(PART, "or when 0 is asked");
        Rig rig = begun();
        Due.is("0 is asked", answerTo(rig, 10, 0), 0);
        rig.cardIs("nothing is written", 1, 3, 0, 0);
    }

    private static void amountAtMostSingle() {
        Due.sentence(PART, "2 when 2 is asked, the amount is at most its SINGLE");
        long[] singles = {0, 1, 255, 256, 1000000000L};
        for (long single : singles) {
            long[] amounts = {0, single - 1, single, single + 1, single + (1L << 32), (1L << 40) - 1};
            for (long amount : amounts) {
                if (amount >= 0) {
                    Rig rig = oneCard(single, 1);
                    rig.begin(0, 5);
                    Due.is("SINGLE " + single + ", amount " + amount, answerTo(rig, amount, 2),
                        amount <= single ? 2 : 1);
                    rig.cardIs("then", 1, 3, amount <= single ? 1 : 0, amount <= single ? 0 : 2);
                }
            }
        }
    }

    private static void rowBelowMost() {
        Due.sentence(PART, "and its row is below its MOST: it writes its row, 1 more");
        for (int most = 0; most <= 9; most++) {
            Rig rig = oneCard(100, most);
            for (int i = 0; i <= most; i++) {
                rig.begin(0, 5);
                Due.is("MOST " + most + ", row " + i, answerTo(rig, 10, 2), i < most ? 2 : 1);
                rig.cardIs("then", i + 1, 3, Math.min(i + 1, most), i < most ? 0 : 2);
            }
        }
    }

    private static void otherwiseOne() {
        Due.sentence(PART, "otherwise 1");
        int[] wanted = {1, 3, 4, 127, 128, 255};
        for (int what : wanted) {
            Rig rig = begun();
            Due.is("asked " + what, answerTo(rig, 10, what), 1);
            rig.cardIs("nothing is written", 1, 3, 0, 2);
        }
        Rig wrong = begun();
        wrong.pin(0, 1);
        Due.is("1 is asked after a wrong PIN", answerTo(wrong, 10, 1), 1);
    }

    private static void answerHasItsWay() {
        Due.sentence(PART, "ANSWER with its counter, its way, the answer");
        int[] pins = {-1, 1234, 1};
        for (int way = 0; way < 3; way++) {
            for (int wanted = 0; wanted <= 2; wanted++) {
                Rig rig = begun();
                rig.begin(0, 9);
                if (way > 0) {
                    rig.pin(0, pins[way]);
                }
                Due.is("answer", answerTo(rig, 10, wanted), wanted);
                Due.is("way", rig.newest(Rig.F_WAY), way);
                Due.is("counter", rig.newest(Rig.F_COUNTER), 2);
            }
        }
        Rig two = begun();
        two.x.card(0, 0, 0, 0);
        for (int i = 0; i < 4; i++) {
            two.begin(1, 9);
        }
        two.pin(1, 0);
        two.ask(0, 10, 9, 0, 1);
        Due.is("its own counter, not another card's", two.newest(Rig.F_COUNTER), 1);
        Due.is("its own way, not another card's", two.newest(Rig.F_WAY), 0);
    }

    private static void stageAfterAnswer() {
        Due.sentence(PART, "Stage 2 for an answer of 1, otherwise 0");
        for (int wanted = 0; wanted <= 2; wanted++) {
            Rig rig = begun();
            Due.is("answer", answerTo(rig, 10, wanted), wanted);
            Due.is("stage", rig.x.told(0, 3), wanted == 1 ? 2 : 0);
            Due.is("END", rig.end(0, 1, 0), wanted == 1 ? 1 : 0);
        }
    }

    /** The host finds the seal good only with the numbers that were asked. */
    private static void unAndTerminalAsAsked() {
        Due.sentence(PART, "(un and terminal as they were asked)");
        long[][] changes = {{Rig.F_UN, 7}, {Rig.F_UN, 4294967295L}, {Rig.F_TERMINAL, 1}, {Rig.F_TERMINAL, 255},
            {Rig.F_AMOUNT, 91}, {Rig.F_AMOUNT, (1L << 40) - 1}};
        for (long[] change : changes) {
            Rig rig = Rig.with(Rig.ASK);
            rig.change(0, (int) change[0], change[1]);
            rig.deliver(3);
            Due.is("the word to what another asked", rig.newest(Rig.F_WORD), 0);
        }
        Rig same = Rig.with(Rig.ASK);
        same.deliver(3);
        Due.is("the word to what was asked", same.newest(Rig.F_WORD), 1);
    }

    private static void endOnlyInStageTwo() {
        Due.sentence(PART, "END, in stage 2");
        Rig rig = begun();
        Due.is("in stage 1", rig.end(0, 1, 1), 0);
        rig.cardIs("it stays", 1, 3, 0, 1);
        rig.ask(0, 10, 5, 0, 1);
        Due.is("in stage 2", rig.end(0, 1, 1), 1);
        Due.is("in stage 0", rig.end(0, 1, 1), 0);
    }

    private static void endApproved() {
        Due.sentence(PART, "its answer is 2 if the word is 1 and the seal is good for the host's key for it and "
            + "8, card, counter, word: it writes row 0 then");
        Rig rig = beforeEnd();
        Due.is("END is taken", rig.x.deliver(0), 1);
        Due.is("LAST", rig.newestKind(), Rig.LAST);
        Due.is("LAST 2", rig.newest(Rig.F_ANSWER), 2);
        rig.cardIs("its row begins anew", 2, 3, 0, 0);
        rig.deliver(1);
        Due.is("approved", rig.x.outcome(0), 1);
        rig.x.purchase(0, 0, 40, 0);
        rig.deliver(3);
        Due.is("it answers 2 again", rig.newest(Rig.F_ANSWER), 2);
        Rig zero = Rig.with(Rig.END);
        zero.x.power(0, 0);
        zero.deliver(1);
        Due.is("a row of 0 is written, too", zero.x.count(2), 0);
    }

    private static void endRefused() {
        Due.sentence(PART, "otherwise 0");
        long[][] changes = {{Rig.F_WORD, 0}, {Rig.F_WORD, 2}, {Rig.F_WORD, 129}, {Rig.F_WORD, 255}, {Rig.F_SEAL, 0},
            {Rig.F_SEAL, 1}, {Rig.F_SEAL, 8}, {Rig.F_SEAL, 10}, {Rig.F_SEAL, 4294967295L}};
        for (long[] change : changes) {
            Rig rig = beforeEnd();
            Due.is("the true seal", rig.newest(Rig.F_SEAL), 6);
            rig.change(0, (int) change[0], change[1]);
            Due.is("END is taken", rig.x.deliver(0), 1);
            Due.is("LAST", rig.newestKind(), Rig.LAST);
            Due.is("LAST 0", rig.newest(Rig.F_ANSWER), 0);
            rig.cardIs("its row stays", 2, 3, 1, 0);
        }
    }

    private static void endWithSealOfOthers() {
        Due.sentence(PART, "the seal is good for the host's key for it and 8, card, counter, word");
        Rig counter = beforeEnd();
        long seal = counter.newest(Rig.F_SEAL);
        counter.dropAll();
        counter.begin(0, 1);
        counter.ask(0, 40, 1, 0, 1);
        counter.end(0, seal, 1);
        Due.is("a word for another counter", counter.newest(Rig.F_ANSWER), 0);
        Rig word = Rig.with(Rig.REQUEST);
        word.x.again(0);
        word.deliver(2);
        Due.is("a word of 0", word.newest(Rig.F_WORD), 0);
        word.end(0, word.newest(Rig.F_SEAL), 1);
        Due.is("the seal of a word of 0", word.newest(Rig.F_ANSWER), 0);
        Rig zero = Rig.with(Rig.REQUEST);
        zero.x.again(0);
        zero.deliver(2);
        zero.end(0, zero.newest(Rig.F_SEAL), 0);
        Due.is("a true word of 0", zero.newest(Rig.F_ANSWER), 0);
        Rig card = Rig.with(Rig.END);
        seal = card.newest(Rig.F_SEAL);
        card.x.card(1, 100, 1, 100);
        card.begin(1, 5);
        card.ask(1, 90, 5, 0, 1);
        card.end(1, seal, 1);
        Due.is("a word for another card", card.newest(Rig.F_ANSWER), 0);
    }

    private static void stageAfterEnd() {
        Due.sentence(PART, "LAST with the answer and its seal of 10, answer, amount, un, terminal, counter. Stage 0.");
        for (int word = 0; word <= 1; word++) {
            Rig rig = Rig.with(Rig.END);
            rig.x.again(0);
            rig.change(0, Rig.F_WORD, word);
            Due.is("END", rig.x.deliver(0), 1);
            Due.is("LAST", rig.newest(Rig.F_ANSWER), word * 2);
            Due.is("stage", rig.x.told(0, 3), 0);
            Due.is("a second END", rig.x.deliver(0), 0);
        }
    }

    /** The same amount, un and terminal at two counters: each LAST has a seal of its own. */
    private static void lastIsSealedWithItsCounter() {
        Due.sentence(PART, "LAST with the answer and its seal of 10, answer, amount, un, terminal, counter");
        Rig rig = oneCard(100, 1);
        for (int i = 0; i < 2; i++) {
            rig.begin(0, 5);
            rig.ask(0, 10, 5, 0, 1);
            rig.end(0, 0, 0);
            Due.is("LAST 0", rig.newest(Rig.F_ANSWER), 0);
            Due.is("its seal", rig.newest(Rig.F_SEAL), 3 + 3 * i);
        }
    }
}
