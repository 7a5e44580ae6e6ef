/** Promises 11 to 21: each call at the edges that its promise names, and what a refused call leaves as it was. */
public final class PromisesFrom11Test {
    public static void main(String[] args) {
        powerAtEachWrite();
        powerAtTheFirstOfTwoWrites();
        powerButSoMany();
        powerCountsWrites();
        powerWithoutAWrite();
        powerOnce();
        powerToldAnew();
        powerRefused();
        ticks();
        tickRefused();
        cleared();
        clearWithLoss();
        clearOfNone();
        counts();
        countOfOthers();
        outcomes();
        outcomeOfNone();
        told();
        toldOfNone();
        accounts();
        accountOfNone();
        debits();
        debitOfNone();
        messages();
        messageOfNone();
        bytes();
        byteOfNone();
        matchedUnderAttack();
        notMatched();
        asksChangeNothing();
        Due.end();
    }

    private static Rig oneCard() {
        Rig rig = new Rig();
        rig.x.card(1234, 100, 1, 1000);
        rig.x.terminal(0, 0);
        return rig;
    }

    private static Rig begun() {
        Rig rig = oneCard();
        rig.begin(0, 1);
        rig.dropAll();
        return rig;
    }

    private static void lost(Rig rig, String name, int seals, int counter, int tries, int row) {
        Due.is(name + ", nothing is answered", rig.x.count(2), 0);
        Due.is(name + ", nothing is sealed", rig.x.count(4), seals);
        rig.cardIs(name, counter, tries, row, 0);
    }

    private static void powerAtEachWrite() {
        Due.sentence("Promise 11", "that is not done, nor what comes behind it; nothing is answered, its stage is 0");
        Rig begin = begun();
        begin.x.power(0, 0);
        Due.is("BEGIN", begin.begin(0, 1), 1);
        lost(begin, "BEGIN", 1, 1, 3, 0);
        Rig wrong = begun();
        wrong.x.power(0, 0);
        Due.is("a wrong PIN", wrong.pin(0, 1), 1);
        lost(wrong, "a wrong PIN", 1, 1, 3, 0);
        Rig right = begun();
        right.x.power(0, 1);
        Due.is("the right PIN, its second write", right.pin(0, 1234), 1);
        lost(right, "the right PIN, its second write", 1, 1, 2, 0);
        Rig ask = begun();
        ask.x.power(0, 0);
        Due.is("ASK 2", ask.ask(0, 10, 1, 0, 2), 1);
        lost(ask, "ASK 2", 1, 1, 3, 0);
        Rig end = CardTest.beforeEnd();
        end.x.power(0, 0);
        Due.is("END 1", end.x.deliver(0), 1);
        lost(end, "END 1", 7, 2, 3, 1);
        Due.is("the debit stays", end.x.count(3), 1);
    }

    private static void powerAtTheFirstOfTwoWrites() {
        Due.sentence("Promise 11", "that is not done, nor what comes behind it");
        Rig rig = begun();
        rig.x.power(0, 0);
        Due.is("the right PIN", rig.pin(0, 1234), 1);
        lost(rig, "the right PIN", 1, 1, 3, 0);
        Rig fewer = begun();
        fewer.pin(0, 1);
        fewer.dropAll();
        fewer.x.power(0, 0);
        fewer.pin(0, 1234);
        lost(fewer, "the right PIN with two tries", 1, 1, 2, 0);
    }

    private static void powerButSoMany() {
        Due.sentence("Promise 11", "A card loses power at its next write but so many");
        for (int n = 0; n <= 9; n++) {
            Rig rig = oneCard();
            rig.x.purchase(0, 0, 10, 0);
            rig.fillTo(12);
            Due.is("power", rig.x.power(0, n), true);
            for (int i = 0; i < 12; i++) {
                Due.is("BEGIN is taken", rig.x.deliver(0), 1);
                Due.is("power " + n + ", stage after write " + i, rig.x.told(0, 3), i == n ? 0 : 1);
            }
            Due.is("one write was not done", rig.x.told(0, 0), 11);
            Due.is("one was not answered", rig.x.count(2), 11);
        }
    }

    private static void powerCountsWrites() {
        Due.sentence("Promise 11", "A card loses power at its next write but so many");
        // Writes: BEGIN, two of the right PIN, ASK 2, BEGIN, one of a wrong PIN.
        int[] stages = {0, 0, 0, 0, 0, 0, 1};
        int[] counters = {0, 1, 1, 1, 1, 2, 2};
        int[] tries = {3, 3, 2, 3, 3, 3, 2};
        int[] rows = {0, 0, 0, 0, 1, 1, 1};
        for (int n = 0; n <= 6; n++) {
            Rig rig = oneCard();
            rig.x.power(0, n);
            boolean goes = stepIsDone(rig, rig.begin(0, 1)) && stepIsDone(rig, rig.pin(0, 1234))
                && stepIsDone(rig, rig.ask(0, 10, 1, 0, 2)) && stepIsDone(rig, rig.begin(0, 1))
                && stepIsDone(rig, rig.pin(0, 1));
            Due.is("all is done with " + n, goes, n == 6);
            rig.cardIs("power " + n, counters[n], tries[n], rows[n], stages[n]);
        }
    }

    /** Whether what was taken was answered, too. */
    private static boolean stepIsDone(Rig rig, int taken) {
        Due.is("it is taken", taken, 1);
        return rig.x.drop(0);
    }

    private static void powerWithoutAWrite() {
        Due.sentence("Promise 11", "A card loses power at its next write");
        Rig stages = oneCard();
        stages.x.power(0, 0);
        stages.pin(0, 1234);
        stages.ask(0, 10, 1, 0, 2);
        stages.end(0, 1, 1);
        Due.is("what is thrown away is no write", stages.begin(0, 1), 1);
        stages.cardIs("BEGIN is", 0, 3, 0, 0);
        for (int wanted = 0; wanted <= 1; wanted++) {
            Rig ask = begun();
            ask.x.power(0, 0);
            ask.ask(0, 10, 1, 0, wanted);
            Due.is("an answer of " + wanted + " is no write", ask.newest(Rig.F_ANSWER), wanted);
            ask.begin(0, 1);
            ask.cardIs("the next BEGIN is", 1, 3, 0, 0);
        }
        Rig end = Rig.with(Rig.END);
        end.x.power(0, 0);
        end.change(0, Rig.F_WORD, 0);
        end.deliver(1);
        Due.is("a LAST of 0 is no write", end.newestKind(), Rig.LAST);
        Rig tries = begun();
        for (int i = 0; i < 3; i++) {
            tries.pin(0, 1);
        }
        tries.x.power(0, 0);
        tries.pin(0, 1234);
        Due.is("a PIN without tries is no write", tries.newest(Rig.F_WAY), 2);
        tries.cardIs("a PIN without tries", 1, 0, 0, 1);
    }

    private static void powerOnce() {
        Due.sentence("Promise 11", "(Once; told again, anew.)");
        Rig rig = oneCard();
        rig.x.power(0, 0);
        rig.begin(0, 1);
        rig.cardIs("it is lost", 0, 3, 0, 0);
        for (int i = 1; i <= 12; i++) {
            rig.begin(0, 1);
            rig.cardIs("and not again", i, 3, 0, 1);
        }
        rig.x.power(0, 0);
        rig.begin(0, 1);
        rig.cardIs("but when it is told again", 12, 3, 0, 0);
    }

    private static void powerToldAnew() {
        Due.sentence("Promise 11", "(Once; told again, anew.)");
        Rig later = oneCard();
        later.x.power(0, 1);
        later.begin(0, 1);
        later.x.power(0, 1);
        later.begin(0, 1);
        later.cardIs("one more write was told", 2, 3, 0, 1);
        later.begin(0, 1);
        later.cardIs("then it is lost", 2, 3, 0, 0);
        later.begin(0, 1);
        later.cardIs("the first telling is over", 3, 3, 0, 1);
        Rig sooner = oneCard();
        sooner.x.power(0, 9);
        sooner.x.power(0, 0);
        sooner.begin(0, 1);
        sooner.cardIs("told sooner", 0, 3, 0, 0);
        Rig other = oneCard();
        other.x.card(1, 1, 1, 1);
        other.x.power(1, 0);
        other.begin(0, 1);
        other.cardIs("another card's power", 1, 3, 0, 1);
        other.begin(1, 1);
        Due.is("is lost there", other.x.told(1, 0), 0);
    }

    private static void powerRefused() {
        Due.sentence("Promise 11", "False when there is no such card, or n is not 0 .. 9");
        Rig rig = oneCard();
        Due.refuses("card", 0, 0, 0, card -> Due.bit(rig.x.power(card, 0)));
        Due.refuses("n", 0, 0, 9, n -> Due.bit(rig.x.power(0, n)));
        for (int i = 1; i <= 12; i++) {
            rig.begin(0, 1);
            rig.cardIs("no power is lost", i, 3, 0, 1);
        }
        Due.is("n as low as can be", rig.x.power(0, 0), true);
        Due.is("n as high as can be", rig.x.power(0, 9), true);
        rig.x.power(0, 0);
        Due.is("refused", rig.x.power(0, 10), false);
        rig.begin(0, 1);
        rig.cardIs("what was told before stays", 12, 3, 0, 0);
    }

    private static void ticks() {
        Due.sentence("Promise 12", "how many terminals have the outcome 4 by it");
        Rig rig = new Rig();
        rig.x.card(1234, 100, 1, 500);
        Due.is("no terminals", rig.x.tick(1), 0);
        for (int t = 0; t < 8; t++) {
            rig.x.terminal(50, 80);
        }
        Due.is("nobody waits", rig.x.tick(100), 0);
        for (int t = 0; t < 3; t++) {
            rig.x.purchase(t, 0, 90, 1234);
        }
        Due.is("three wait", rig.x.tick(20), 0);
        for (int t = 3; t < 8; t++) {
            rig.x.purchase(t, 0, 90, 1234);
        }
        Due.is("three give up", rig.x.tick(1), 3);
        Due.is("each once", rig.x.tick(19), 0);
        Due.is("five give up", rig.x.tick(1), 5);
        for (int t = 0; t < 8; t++) {
            Due.is("outcome of " + t, rig.x.outcome(t), 4);
            rig.x.purchase(t, 0, 90, 1234);
        }
        Due.is("all at once", rig.x.tick(100), 8);
    }

    private static void tickRefused() {
        Due.sentence("Promise 12", "NONE when n is not 1 .. 100");
        Rig rig = Rig.usual();
        rig.x.purchase(0, 0, 90, 1234);
        rig.x.tick(20);
        Due.refuses("n", -1, 1, 100, n -> rig.x.tick(n));
        Due.is("no time goes on", rig.x.outcome(0), 0);
        Due.is("n as low as can be", rig.x.tick(1), 1);
        rig.x.purchase(0, 0, 90, 1234);
        Due.is("n as high as can be", rig.x.tick(100), 1);
    }

    private static void cleared() {
        Due.sentence("Promise 13", "A terminal sends CLEAR to the host for all of its batch, in its order (with its own "
            + "seal of 11 and the fields before), which is empty then");
        Rig rig = TerminalTest.withBatch(9);
        int seals = rig.x.count(4);
        Due.is("another terminal's batch is empty", rig.x.clear(1), 0);
        Due.is("all nine", rig.x.clear(0), 9);
        Due.is("nine wait", rig.x.count(2), 9);
        Due.is("nine seals", rig.x.count(4), seals + 9);
        for (int i = 0; i < 9; i++) {
            Due.is("in its order", rig.field(i, Rig.F_AMOUNT), 10 + i);
            Due.is("its own seal", rig.field(i, Rig.F_MAC), seals + 1 + i);
        }
        Due.is("empty then", rig.x.clear(0), 0);
        Due.is("nine wait", rig.x.count(2), 9);
        Due.is("the outcome stays", rig.x.outcome(0), 2);
        for (int i = 0; i < 9; i++) {
            Due.is("its seal is good", rig.x.deliver(0), 1);
        }
        Due.is("nine debits", rig.x.count(3), 9);
    }

    private static void clearWithLoss() {
        Due.sentence("Promise 13", "(also of those whose messages are lost): how many came onto the wires");
        for (int free = 0; free <= 4; free++) {
            Rig rig = TerminalTest.withBatch(3);
            rig.x.purchase(1, 0, 1, 0);
            rig.fillTo(60 - free);
            Due.is("came with " + free + " places", rig.x.clear(0), Math.min(free, 3));
            Due.is("wait", rig.x.count(2), 60 - free + Math.min(free, 3));
            rig.dropAll();
            Due.is("empty, also of those that are lost", rig.x.clear(0), 0);
            Due.is("nothing is sent", rig.x.count(2), 0);
        }
    }

    private static void clearOfNone() {
        Due.sentence("Promise 13", "NONE when there is none such");
        Rig rig = TerminalTest.withBatch(1);
        Due.refuses("terminal", -1, 0, 1, terminal -> rig.x.clear(terminal));
        Due.is("nothing is sent", rig.x.count(2), 0);
        Due.is("a batch that is empty", rig.x.clear(1), 0);
        Due.is("the batch stays", rig.x.clear(0), 1);
    }

    private static void counts() {
        Due.sentence("Promise 14", "what = 0 cards, 1 terminals, 2 messages, 3 debits, 4 seals, 5 purchases");
        Rig rig = Rig.usual();
        rig.x.card(1, 1, 1, 1);
        rig.x.card(1, 1, 1, 1);
        rig.x.terminal(0, 0);
        for (int i = 0; i < 5; i++) {
            rig.x.purchase(0, 0, 90, 1234);
        }
        rig.x.drop(0);
        int[] before = {3, 2, 4, 0, 0, 5};
        for (int what = 0; what < 6; what++) {
            Due.is("count " + what, rig.x.count(what), before[what]);
        }
        for (int i = 0; i < 7; i++) {
            rig.x.deliver(3);
        }
        int[] after = {3, 2, 4, 1, 5, 5};
        for (int what = 0; what < 6; what++) {
            Due.is("count " + what + ", then", rig.x.count(what), after[what]);
        }
    }

    private static void countOfOthers() {
        Due.sentence("Promise 14", "NONE for others");
        Rig rig = Rig.with(Rig.WORD);
        Due.refuses("what", -1, 0, 5, what -> rig.x.count(what));
    }

    private static void outcomes() {
        Due.sentence("Promise 15", "1 approved by the host, 2 without it, 3 refused, 4 given up; 0 while it waits, or when "
            + "there was none");
        Rig rig = Rig.usual();
        rig.x.terminal(0, 0);
        Due.is("there was none", rig.x.outcome(0), 0);
        long[] amounts = {90, 30, 90, 30};
        int[] pins = {1234, 0, 1, 0};
        for (int outcome = 1; outcome <= 4; outcome++) {
            rig.x.purchase(0, 0, amounts[outcome - 1], pins[outcome - 1]);
            Due.is("it waits", rig.x.outcome(0), 0);
            if (outcome == 4) {
                rig.x.tick(21);
            }
            rig.deliverAll();
            Due.is("outcome", rig.x.outcome(0), outcome);
            Due.is("another terminal had none", rig.x.outcome(1), 0);
        }
        for (int step = 1; step <= 10; step++) {
            Due.is("it waits at step " + step, Rig.with(step).x.outcome(0), 0);
        }
    }

    private static void outcomeOfNone() {
        Due.sentence("Promise 15", "NONE when there is no such terminal");
        Rig rig = Rig.usual();
        rig.x.terminal(0, 0);
        Due.refuses("terminal", -1, 0, 1, terminal -> rig.x.outcome(terminal));
    }

    private static void told() {
        Due.sentence("Promise 16", "what = 0 its counter, 1 tries, 2 row, 3 stage");
        Rig rig = Rig.usual();
        rig.x.card(1, 1, 1, 1);
        for (int i = 0; i < 4; i++) {
            rig.begin(0, 1);
        }
        rig.ask(0, 10, 1, 0, 2);
        rig.begin(0, 1);
        rig.pin(0, 1);
        rig.ask(0, 10, 1, 0, 1);
        rig.cardIs("the first card", 5, 2, 1, 2);
        Due.is("the second card", rig.x.told(1, 0), 0);
        Due.is("the second card", rig.x.told(1, 1), 3);
    }

    private static void toldOfNone() {
        Due.sentence("Promise 16", "NONE when there is none such, or for others");
        Rig rig = Rig.usual();
        rig.x.card(1, 1, 1, 1);
        for (int what = 0; what <= 3; what++) {
            int asked = what;
            Due.refuses("card", -1, 0, 1, card -> rig.x.told(card, asked));
        }
        Due.refuses("what", -1, 0, 3, what -> rig.x.told(0, what));
    }

    private static void accounts() {
        Due.sentence("Promise 17", "A card's account");
        Rig rig = Rig.usual();
        rig.x.card(0, 0, 0, 0);
        rig.x.card(0, 0, 0, 1000000000000L);
        Due.is("the first", rig.x.account(0), 500);
        Due.is("the lowest", rig.x.account(1), 0);
        Due.is("the highest", rig.x.account(2), 1000000000000L);
        rig.x.purchase(0, 0, 500, 1234);
        rig.deliverAll();
        Due.is("all is paid", rig.x.account(0), 0);
        rig.x.purchase(0, 0, 30, 0);
        rig.deliver(4);
        rig.x.clear(0);
        rig.deliver(1);
        Due.is("below 0", rig.x.account(0), -30);
        Due.is("another stays", rig.x.account(2), 1000000000000L);
    }

    private static void accountOfNone() {
        Due.sentence("Promise 17", "0 when there is none such");
        Rig rig = Rig.usual();
        rig.x.card(0, 0, 0, 70);
        Due.refuses("card", 0, 0, 1, card -> rig.x.account(card));
    }

    /** A debit by the host's word of terminal 1 at card 1, and one without it. */
    private static Rig withTwoDebits() {
        Rig rig = Rig.usual();
        rig.x.card(1234, 100, 1, 500);
        rig.x.terminal(50, 80);
        rig.begin(1, 5);
        rig.dropAll();
        rig.x.purchase(1, 1, 90, 1234);
        rig.deliverAll();
        rig.x.purchase(1, 1, 40, 0);
        rig.deliverAll();
        rig.x.clear(1);
        rig.deliver(1);
        Due.is("two debits", rig.x.count(3), 2);
        return rig;
    }

    private static void debits() {
        Due.sentence("Promise 18", "what = 0 card, 1 counter, 2 amount, 3 un, 4 terminal, 5 way, 6 the answer of the card "
            + "(1 or 2)");
        Rig rig = withTwoDebits();
        long un = Rig.draw(12346);
        long[][] due = {{1, 2, 90, un, 1, 1, 1}, {1, 3, 40, Rig.draw(un), 1, 0, 2}};
        for (int k = 0; k < 2; k++) {
            for (int what = 0; what < 7; what++) {
                Due.is("debit " + k + ", " + what, rig.x.debit(k, what), due[k][what]);
            }
        }
    }

    private static void debitOfNone() {
        Due.sentence("Promise 18", "NONE when there is none such, or for others");
        Due.is("there is none", Rig.usual().x.debit(0, 0), -1);
        Rig rig = withTwoDebits();
        for (int what = 0; what <= 6; what++) {
            int asked = what;
            Due.refuses("debit", -1, 0, 1, k -> rig.x.debit(k, asked));
        }
        Due.refuses("what", -1, 0, 6, what -> rig.x.debit(0, what));
    }

    private static void messages() {
        Due.sentence("Promise 19", "what = 0, 1 sort and number from, 2, 3 to, 4 its bytes");
        Rig rig = Rig.usual();
        rig.x.card(0, 0, 0, 0);
        rig.x.card(0, 0, 0, 0);
        rig.x.terminal(0, 0);
        rig.x.purchase(1, 2, 10, 0);
        rig.put(1, 2, 3);
        rig.x.inject(2, 0, 1, 0);
        int[][] due = {{1, 1, 0, 2, 7}, {2, 0, 1, 0, 3}};
        for (int k = 0; k < 2; k++) {
            for (int what = 0; what < 5; what++) {
                Due.is("message " + k + ", " + what, rig.x.message(k, what), due[k][what]);
            }
        }
    }

    private static void messageOfNone() {
        Due.sentence("Promise 19", "NONE when there is none such, or for others");
        Rig rig = Rig.usual();
        Due.is("none waits", rig.x.message(0, 0), -1);
        rig.x.purchase(0, 0, 10, 0);
        rig.fillTo(2);
        for (int what = 0; what <= 4; what++) {
            int asked = what;
            Due.refuses("message", -1, 0, 1, k -> rig.x.message(k, asked));
        }
        Due.refuses("what", -1, 0, 4, what -> rig.x.message(0, what));
        rig.x.drop(0);
        Due.is("one is gone", rig.x.message(1, 4), -1);
    }

    private static void bytes() {
        Due.sentence("Promise 20", "Byte i of message k");
        Rig rig = Rig.usual();
        rig.put(0, 255, 128);
        rig.x.inject(0, 0, 0, 0);
        rig.put(7);
        rig.x.inject(0, 0, 0, 0);
        Due.is("the lowest", rig.x.at(0, 0), 0);
        Due.is("the highest", rig.x.at(0, 1), 255);
        Due.is("the last", rig.x.at(0, 2), 128);
        Due.is("of the second message", rig.x.at(1, 0), 7);
    }

    /** A longer message was on the wires before; its bytes are no part of the shorter ones. */
    private static void byteOfNone() {
        Due.sentence("Promise 20", "NONE when there is none such");
        Rig rig = Rig.usual();
        Due.is("none waits", rig.x.at(0, 0), -1);
        rig.put(new int[64]);
        rig.x.inject(0, 0, 0, 0);
        Due.is("the last of 64", rig.x.at(0, 63), 0);
        Due.refuses("byte of 64", -1, 0, 63, i -> rig.x.at(0, i));
        rig.x.drop(0);
        rig.x.purchase(0, 0, 10, 0);
        rig.fillTo(2);
        Due.refuses("byte", -1, 0, 6, i -> rig.x.at(0, i));
        Due.refuses("byte of the last", -1, 0, 6, i -> rig.x.at(1, i));
        Due.refuses("message", -1, 0, 1, k -> rig.x.at(k, 0));
    }

    private static void matchedUnderAttack() {
        Due.sentence("Promise 21", "Whether for each debit there was just one purchase with its terminal, amount and un, "
            + "and an answer of its card");
        Rig rig = Rig.usual();
        for (int i = 0; i < 9; i++) {
            rig.x.purchase(0, 0, 10 + i * 9, 1234);
            for (int step = 0; step < 12; step++) {
                rig.x.again(0);
                rig.deliver(1);
            }
            rig.x.clear(0);
            for (int step = 0; step < 25; step++) {
                rig.deliver(1);
            }
            Due.is("matched", rig.x.matched(), true);
        }
        Due.is("there are debits", rig.x.count(3) > 1, true);
    }

    /** No run of calls makes a debit that is not matched, so the test changes one behind the object's back. */
    private static void notMatched() {
        Due.sentence("Promise 21", "just one purchase with its terminal, amount and un, and an answer of its card with its "
            + "counter, amount, un, terminal, way and answer, and no two debits are of one counter of a card");
        if (!Inside.isKnown(new CardPayments())) {
            return;
        }
        String[] names = {"card", "counter", "amount", "un", "terminal", "way", "answer"};
        for (String name : names) {
            Rig rig = withTwoDebits();
            Due.is("matched", rig.x.matched(), true);
            Inside.raise(Inside.debits(rig.x).get(1), name);
            Due.is("another " + name, rig.x.matched(), false);
        }
        for (String name : new String[] {"terminal", "amount", "un"}) {
            Rig rig = withTwoDebits();
            Inside.raise(Inside.purchases(rig.x).get(0), name);
            Due.is("no purchase with its " + name, rig.x.matched(), false);
        }
        for (String name : names) {
            Rig rig = withTwoDebits();
            Inside.raise(Inside.answers(rig.x).get(0), name);
            Due.is("no answer with its " + name, rig.x.matched(), false);
        }
        Rig twice = withTwoDebits();
        Inside.debits(twice.x).add(Inside.debits(twice.x).get(0));
        Due.is("two debits of a counter", twice.x.matched(), false);
        Rig bought = withTwoDebits();
        Inside.purchases(bought.x).add(Inside.purchases(bought.x).get(0));
        Due.is("two purchases", bought.x.matched(), false);
        Rig answered = withTwoDebits();
        Inside.answers(answered.x).add(Inside.answers(answered.x).get(0));
        Due.is("two answers are no fault", answered.x.matched(), true);
    }

    private static void asksChangeNothing() {
        Due.sentence("Not promised", "Nothing is promised beyond the answers and state changes described above");
        Rig rig = Rig.with(Rig.WORD);
        String before = rig.picture();
        Due.is("asked again", rig.picture(), before);
    }
}
