/** "Terms", the part A TERMINAL: its draw, each step of a purchase, its outcomes and how long it waits. */
public final class TerminalTest {
    private static final String PART = "Terms, A TERMINAL";

    public static void main(String[] args) {
        endsTheOneBefore();
        messagesOfTheOneBefore();
        drawAtFirst();
        drawWrapsAround();
        noSuchCard();
        sealOfCardNotGood();
        keepsCardAndCounter();
        atLeastPinFrom();
        pinned();
        atMostFloor();
        answersThatRefuse();
        answerOfAnotherCounter();
        answerOfAnotherWay();
        answerWithoutHost();
        answerWithAnotherSeal();
        request();
        wordThrownAway();
        wordOfAnotherPurchase();
        wordOfAnotherCard();
        wordOfAnotherTerminal();
        wordWithAnotherSeal();
        lastApproved();
        lastAfterAWordOfZero();
        lastWithAnotherAnswer();
        lastWithAnotherSeal();
        lastOfTwoTerminals();
        sendsToTheCardThatWasTold();
        waitsTwentyTicks();
        waitsAnewAtEachStep();
        waitsAfterALostMessage();
        waitsForNothing();
        Due.end();
    }

    /** Terminal 0 has so many purchases in its batch, of 10, 11, ... cents; terminal 1 has none. */
    static Rig withBatch(int many) {
        Rig rig = new Rig();
        rig.x.card(0, 1000, 9, 100);
        rig.x.terminal(1000, 1000);
        rig.x.terminal(1000, 1000);
        for (int i = 0; i < many; i++) {
            rig.x.purchase(0, 0, 10 + i, 0);
            rig.deliver(4);
            Due.is("approved without it", rig.x.outcome(0), 2);
        }
        return rig;
    }

    private static void endsTheOneBefore() {
        Due.sentence(PART, "A purchase ends the one before (OUTCOME 4, if it had none)");
        for (int step = 1; step <= 10; step++) {
            Rig rig = Rig.with(step);
            rig.x.tick(20);
            rig.dropAll();
            rig.x.purchase(0, 0, 30, 0);
            Due.is("the new one waits, before step " + step, rig.x.outcome(0), 0);
            Due.is("it waits anew", rig.x.tick(20), 0);
            rig.deliver(4);
            Due.is("it goes on", rig.x.outcome(0), 2);
            Due.is("two purchases", rig.x.count(5), 2);
        }
        Rig over = Rig.with(Rig.LAST);
        over.deliver(1);
        Due.is("the one before is approved", over.x.outcome(0), 1);
        over.x.purchase(0, 0, 30, 0);
        Due.is("the new one has no outcome", over.x.outcome(0), 0);
        over.x.purchase(0, 0, 30, 0);
        Due.is("it is given up once, not twice", over.x.tick(21), 1);
    }

    private static void messagesOfTheOneBefore() {
        Due.sentence(PART, "A purchase ends the one before (OUTCOME 4, if it had none)");
        int[] kinds = {Rig.PINNED, Rig.ANSWER, Rig.WORD, Rig.LAST};
        for (int kind : kinds) {
            Rig rig = Rig.with(kind);
            rig.x.purchase(0, 0, 30, 0);
            Due.is("kind " + kind + " for the one before", rig.x.deliver(0), 0);
            rig.deliver(4);
            Due.is("the new one goes on", rig.x.outcome(0), 2);
        }
        Rig card = Rig.with(Rig.CARD);
        card.x.purchase(0, 0, 30, 0);
        Due.is("CARD for the one before", card.x.deliver(0), 1);
        Due.is("refused, for its un", card.x.outcome(0), 3);
    }

    private static void drawAtFirst() {
        Due.sentence(PART, "its draw x, at first 12345 + its number");
        Rig rig = new Rig();
        rig.x.card(0, 0, 0, 0);
        for (int t = 0; t < 8; t++) {
            rig.x.terminal(0, 0);
            Due.is("the first un of terminal " + t, rig.x.purchase(t, 0, 1, 0), Rig.draw(12345 + t));
        }
    }

    private static void drawWrapsAround() {
        Due.sentence(PART, "becomes (x * 1103515245 + 12345) modulo 2^31 and is the un");
        Rig known = Rig.usual();
        Due.is("the first", known.x.purchase(0, 0, 1, 0), 1406932606L);
        Due.is("the second", known.x.purchase(0, 0, 1, 0), 654583775L);
        Due.is("the third", known.x.purchase(0, 0, 1, 0), 1449466924L);
        Rig rig = Rig.usual();
        long draw = 12345;
        for (int i = 0; i < 200; i++) {
            draw = Rig.draw(draw);
            Due.is("un " + i, rig.x.purchase(0, 0, 1, 0), draw);
            if (i < 20) {
                Due.is("un " + i + " in BEGIN", rig.newest(Rig.F_UN), draw);
            }
        }
    }

    /** A message of this kind waits and is changed; what comes of the purchase. */
    private static void outcomeOfChanged(String name, int kind, int tag, long value, int outcome) {
        Rig rig = Rig.with(kind);
        rig.change(0, tag, value);
        Due.is(name + ", is taken", rig.x.deliver(0), 1);
        rig.deliverAll();
        Due.is(name + ", outcome", rig.x.outcome(0), outcome);
        Due.is(name + ", debits", rig.x.count(3), kind == Rig.LAST || outcome == 1 ? 1 : 0);
    }

    private static void noSuchCard() {
        Due.sentence(PART, "CARD (no such card");
        outcomeOfChanged("the number behind the last", Rig.CARD, Rig.F_CARD, 1, 3);
        outcomeOfChanged("the highest number", Rig.CARD, Rig.F_CARD, 255, 3);
        outcomeOfChanged("the card that there is", Rig.CARD, Rig.F_CARD, 0, 1);
        Rig rig = Rig.with(Rig.CARD);
        rig.change(0, Rig.F_CARD, 1);
        rig.deliver(1);
        Due.is("nothing is sent", rig.x.count(2), 0);
    }

    private static void sealOfCardNotGood() {
        Due.sentence(PART, "or the seal is not good for that card's key and 2, card, counter, un: OUTCOME 3");
        outcomeOfChanged("counter 0", Rig.CARD, Rig.F_COUNTER, 0, 3);
        outcomeOfChanged("another counter", Rig.CARD, Rig.F_COUNTER, 2, 3);
        outcomeOfChanged("the highest counter", Rig.CARD, Rig.F_COUNTER, 65535, 3);
        outcomeOfChanged("seal 0", Rig.CARD, Rig.F_SEAL, 0, 3);
        outcomeOfChanged("the next seal", Rig.CARD, Rig.F_SEAL, 2, 3);
        outcomeOfChanged("the highest seal", Rig.CARD, Rig.F_SEAL, 4294967295L, 3);
        outcomeOfChanged("another un", Rig.BEGIN, Rig.F_UN, 5, 3);
        Rig other = Rig.usual();
        other.x.card(0, 0, 0, 0);
        other.x.purchase(0, 0, 30, 0);
        other.deliver(1);
        other.change(0, Rig.F_CARD, 1);
        other.deliver(1);
        Due.is("another card that there is", other.x.outcome(0), 3);
    }

    /** Card 1 stands in for card 0 at the wires: the terminal keeps card 1, but sends to card 0. */
    private static Rig standIn() {
        Rig rig = Rig.usual();
        rig.x.card(1111, 100, 1, 900);
        long un = rig.x.purchase(0, 0, 60, 0);
        rig.dropAll();
        rig.begin(1, un);
        Due.is("CARD of another card is taken", rig.x.deliver(0), 1);
        Due.is("ASK waits", rig.x.at(0, 0), Rig.ASK);
        return rig;
    }

    private static void keepsCardAndCounter() {
        Due.sentence(PART, "it keeps card and counter");
        Rig rig = standIn();
        long un = rig.newest(Rig.F_UN);
        rig.dropAll();
        rig.ask(1, 60, un, 0, 1);
        rig.deliver(1);
        Due.is("REQUEST is for the card that it keeps", rig.field(0, Rig.F_CARD), 1);
        rig.deliver(2);
        long seal = rig.field(0, Rig.F_SEAL);
        rig.dropAll();
        rig.end(1, seal, 1);
        rig.deliver(1);
        Due.is("approved", rig.x.outcome(0), 1);
        Due.is("the account of the card that it keeps", rig.x.account(1), 840);
        Due.is("the account of the card that was told", rig.x.account(0), 500);
    }

    private static void atLeastPinFrom() {
        Due.sentence(PART, "If the amount is at least PINFROM it sends PIN with what was typed");
        long[] froms = {0, 1, 2, 80, 1000000000L};
        for (long from : froms) {
            for (long amount = from - 1; amount <= from + 1; amount++) {
                if (amount >= 1 && amount <= 1000000000L) {
                    Rig rig = new Rig();
                    rig.x.card(1234, 0, 0, 0);
                    rig.x.terminal(0, from);
                    rig.x.purchase(0, 0, amount, 9999);
                    rig.deliver(2);
                    Due.is("PINFROM " + from + ", amount " + amount, rig.newestKind(),
                        amount >= from ? Rig.PIN : Rig.ASK);
                    Due.is("what was typed", rig.newest(Rig.F_PIN), amount >= from ? 9999 : -1);
                }
            }
        }
        Rig zero = Rig.usual();
        zero.x.purchase(0, 0, 90, 0);
        zero.deliver(2);
        Due.is("0 was typed", zero.newest(Rig.F_PIN), 0);
    }

    private static void pinned() {
        Due.sentence(PART, "PINNED: 1: its way is 1, and it asks; otherwise OUTCOME 3");
        outcomeOfChanged("PINNED 0", Rig.PINNED, Rig.F_WAY, 0, 3);
        outcomeOfChanged("PINNED 2", Rig.PINNED, Rig.F_WAY, 2, 3);
        outcomeOfChanged("PINNED 255", Rig.PINNED, Rig.F_WAY, 255, 3);
        outcomeOfChanged("PINNED 1", Rig.PINNED, Rig.F_WAY, 1, 1);
        outcomeOfChanged("a wrong PIN", Rig.PIN, Rig.F_PIN, 1, 3);
        Rig lie = Rig.usual();
        lie.x.purchase(0, 0, 90, 1);
        lie.deliver(3);
        lie.change(0, Rig.F_WAY, 1);
        lie.deliverAll();
        Due.is("a lie about the PIN", lie.x.outcome(0), 3);
        Due.is("has no debit", lie.x.count(3), 0);
    }

    private static void atMostFloor() {
        Due.sentence(PART, "and 2 if the amount is at most FLOOR, otherwise 1");
        long[] floors = {0, 1, 2, 50, 1000000000L};
        for (long floor : floors) {
            for (long amount = floor - 1; amount <= floor + 1; amount++) {
                if (amount >= 1 && amount <= 1000000000L) {
                    Rig rig = new Rig();
                    rig.x.card(1234, 0, 0, 0);
                    rig.x.terminal(floor, 0);
                    long un = rig.x.purchase(0, 0, amount, 1234);
                    rig.deliver(4);
                    Due.is("ASK", rig.newestKind(), Rig.ASK);
                    Due.is("FLOOR " + floor + ", amount " + amount, rig.newest(Rig.F_ANSWER), amount <= floor ? 2 : 1);
                    Due.is("amount", rig.newest(Rig.F_AMOUNT), amount);
                    Due.is("un", rig.newest(Rig.F_UN), un);
                    Due.is("terminal", rig.newest(Rig.F_TERMINAL), 0);
                }
            }
        }
    }

    private static void answersThatRefuse() {
        Due.sentence(PART, "ANSWER 0 or above 2: OUTCOME 3");
        int[] answers = {0, 3, 4, 128, 255};
        for (int answer : answers) {
            outcomeOfChanged("ANSWER " + answer, Rig.ANSWER, Rig.F_ANSWER, answer, 3);
        }
        outcomeOfChanged("ANSWER 1", Rig.ANSWER, Rig.F_ANSWER, 1, 1);
        outcomeOfChanged("0 is asked", Rig.ASK, Rig.F_ANSWER, 0, 3);
        Rig rig = Rig.with(Rig.ANSWER);
        rig.change(0, Rig.F_ANSWER, 3);
        rig.deliver(1);
        Due.is("nothing is sent", rig.x.count(2), 0);
    }

    private static Rig withAnswerOfTwo() {
        Rig rig = Rig.usual();
        rig.x.purchase(0, 0, 30, 0);
        rig.deliver(3);
        Due.is("ANSWER 2", rig.field(0, Rig.F_ANSWER), 2);
        return rig;
    }

    private static void refusedWithoutHost(Rig rig, String name) {
        Due.is(name + ", is taken", rig.x.deliver(0), 1);
        Due.is(name + ", refused", rig.x.outcome(0), 3);
        Due.is(name + ", nothing in the batch", rig.x.clear(0), 0);
        Due.is(name + ", nothing is sent", rig.x.count(2), 0);
    }

    /** The card began anew behind the terminal's back, so its answer and seal are true, but of another counter. */
    private static void answerOfAnotherCounter() {
        Due.sentence(PART, "2: if the counter is the one that it keeps");
        Rig rig = Rig.usual();
        long un = rig.x.purchase(0, 0, 30, 0);
        rig.deliver(1);
        rig.begin(0, un);
        rig.x.drop(1);
        rig.deliver(2);
        Due.is("ANSWER of another counter", rig.field(0, Rig.F_COUNTER), 2);
        refusedWithoutHost(rig, "another counter");
        Rig changed = withAnswerOfTwo();
        changed.change(0, Rig.F_COUNTER, 2);
        refusedWithoutHost(changed, "a counter that was changed");
    }

    /** A stranger typed a PIN behind the terminal's back, so the card's answer and seal are true, but of another way. */
    private static void answerOfAnotherWay() {
        Due.sentence(PART, "the way is its own");
        int[] typed = {1234, 1};
        for (int pin : typed) {
            Rig rig = Rig.usual();
            rig.x.purchase(0, 0, 30, 0);
            rig.deliver(2);
            rig.pin(0, pin);
            rig.x.drop(1);
            rig.deliver(1);
            Due.is("ANSWER of another way", rig.field(0, Rig.F_WAY), pin == 1 ? 2 : 1);
            refusedWithoutHost(rig, "another way");
        }
        Rig changed = withAnswerOfTwo();
        changed.change(0, Rig.F_WAY, 1);
        refusedWithoutHost(changed, "a way that was changed");
        Rig hidden = Rig.usual();
        hidden.x.purchase(0, 0, 30, 0);
        hidden.deliver(2);
        hidden.pin(0, 1234);
        hidden.x.drop(1);
        hidden.deliver(1);
        hidden.change(0, Rig.F_WAY, 0);
        refusedWithoutHost(hidden, "another way that was hidden");
    }

    private static void answerWithoutHost() {
        Due.sentence(PART, "OUTCOME 2, and what REQUEST would have goes into the batch");
        Rig rig = withAnswerOfTwo();
        long seal = rig.newest(Rig.F_SEAL);
        rig.deliver(1);
        Due.is("approved without it", rig.x.outcome(0), 2);
        Due.is("nothing is sent", rig.x.count(2), 0);
        Due.is("nothing is sealed for the batch yet", rig.x.count(4), 2);
        Due.is("no debit yet", rig.x.count(3), 0);
        Due.is("one in the batch", rig.x.clear(0), 1);
        Due.is("card", rig.newest(Rig.F_CARD), 0);
        Due.is("counter", rig.newest(Rig.F_COUNTER), 1);
        Due.is("amount", rig.newest(Rig.F_AMOUNT), 30);
        Due.is("un", rig.newest(Rig.F_UN), 1406932606L);
        Due.is("terminal", rig.newest(Rig.F_TERMINAL), 0);
        Due.is("way", rig.newest(Rig.F_WAY), 0);
        Due.is("seal", rig.newest(Rig.F_SEAL), seal);
        outcomeOfChanged("2 is asked for it by a stranger", Rig.ASK, Rig.F_ANSWER, 2, 2);
        Rig later = withBatch(2);
        later.x.purchase(0, 0, 500, 0);
        Due.is("a purchase behind leaves the batch", later.x.clear(0), 2);
        Due.is("its first", later.field(1, Rig.F_AMOUNT), 10);
        Due.is("its second", later.field(2, Rig.F_AMOUNT), 11);
    }

    private static void answerWithAnotherSeal() {
        Due.sentence(PART, "and the seal is good for the card's key and 6, 2, amount, un, its number, counter, way");
        long[] seals = {0, 1, 3, 258, 4294967295L};
        for (long seal : seals) {
            Rig rig = withAnswerOfTwo();
            Due.is("the true seal", rig.newest(Rig.F_SEAL), 2);
            rig.change(0, Rig.F_SEAL, seal);
            refusedWithoutHost(rig, "seal " + seal);
        }
        outcomeOfChanged("ANSWER 1 that comes as 2", Rig.ANSWER, Rig.F_ANSWER, 2, 3);
        int[] tags = {Rig.F_AMOUNT, Rig.F_UN, Rig.F_TERMINAL};
        for (int tag : tags) {
            Rig rig = Rig.usual();
            rig.x.purchase(0, 0, 30, 0);
            rig.deliver(2);
            rig.change(0, tag, rig.field(0, tag) + 1);
            rig.deliver(1);
            Due.is("ANSWER 2", rig.field(0, Rig.F_ANSWER), 2);
            refusedWithoutHost(rig, "another field " + tag + " was asked");
        }
    }

    private static void request() {
        Due.sentence(PART, "1: it sends REQUEST to the host, with card, the counter of the answer, amount, un, its number, "
            + "its own way, the seal of the answer, and its own seal of 7 and these");
        Rig rig = Rig.with(Rig.ANSWER);
        rig.change(0, Rig.F_COUNTER, 65535);
        rig.change(0, Rig.F_SEAL, 4294967295L);
        rig.change(0, Rig.F_WAY, 255);
        rig.deliver(1);
        rig.goesFromTo("REQUEST", 1, 0, 2, 0);
        Due.is("REQUEST", rig.newestKind(), Rig.REQUEST);
        Due.is("the counter of the answer", rig.field(0, Rig.F_COUNTER), 65535);
        Due.is("the seal of the answer", rig.field(0, Rig.F_SEAL), 4294967295L);
        Due.is("its own way", rig.field(0, Rig.F_WAY), 1);
        Due.is("its own seal is good", rig.x.deliver(0), 1);
        Due.is("the host says 0", rig.field(0, Rig.F_WORD), 0);
        Due.is("WORD is taken", rig.x.deliver(0), 1);
        rig.deliver(2);
        Due.is("refused", rig.x.outcome(0), 3);
        outcomeOfChanged("ANSWER with another way", Rig.ANSWER, Rig.F_WAY, 2, 1);
        requestsOfTwoTerminals();
    }

    /** Two terminals at two cards by turns: each REQUEST has the numbers of its own purchase. */
    private static void requestsOfTwoTerminals() {
        Rig rig = Rig.usual();
        rig.x.card(1111, 100, 1, 900);
        rig.x.terminal(0, 1000);
        rig.begin(1, 5);
        rig.dropAll();
        long[] uns = {rig.x.purchase(0, 0, 60, 0), rig.x.purchase(1, 1, 70, 0)};
        rig.deliver(8);
        for (int t = 0; t < 2; t++) {
            Due.is("REQUEST", rig.x.at(t, 0), Rig.REQUEST);
            Due.is("terminal " + t, rig.field(t, Rig.F_TERMINAL), t);
            Due.is("card of " + t, rig.field(t, Rig.F_CARD), t);
            Due.is("counter of " + t, rig.field(t, Rig.F_COUNTER), 1 + t);
            Due.is("amount of " + t, rig.field(t, Rig.F_AMOUNT), 60 + 10 * t);
            Due.is("un of " + t, rig.field(t, Rig.F_UN), uns[t]);
        }
    }

    private static void wordThrownAway() {
        Due.sentence(PART, "WORD, if the mac is good for its own key and 8, card, counter, word, amount (card and counter "
            + "as in its REQUEST, and as in WORD; else it is thrown away)");
        long[][] changes = {{Rig.F_CARD, 1}, {Rig.F_CARD, 255}, {Rig.F_COUNTER, 0}, {Rig.F_COUNTER, 2},
            {Rig.F_WORD, 0}, {Rig.F_WORD, 2}, {Rig.F_WORD, 255}, {Rig.F_MAC, 0}, {Rig.F_MAC, 4}, {Rig.F_MAC, 6},
            {Rig.F_MAC, 4294967295L}};
        for (long[] change : changes) {
            Rig rig = Rig.with(Rig.WORD);
            Due.is("the true mac", rig.field(0, Rig.F_MAC), 5);
            rig.x.again(0);
            rig.change(0, (int) change[0], change[1]);
            Due.is("WORD with another field " + change[0], rig.x.deliver(0), 0);
            Due.is("it waits", rig.x.outcome(0), 0);
            Due.is("nothing is sent", rig.x.count(2), 1);
            Due.is("the true WORD is taken", rig.x.deliver(0), 1);
        }
    }

    private static int feedWord(Rig rig, int terminal, int card, int counter, int seal, int mac) {
        return rig.feedTerminal(terminal, Rig.WORD, Rig.F_CARD, card, Rig.F_COUNTER, counter, Rig.F_SEAL, seal,
            Rig.F_WORD, 1, Rig.F_MAC, mac);
    }

    /** The WORD of counter 1 and 90 cents, with the seal 4 and the mac 5, comes to the purchase behind. */
    private static void wordOfAnotherPurchase() {
        Due.sentence(PART, "8, card, counter, word, amount (card and counter as in its REQUEST, and as in WORD");
        for (int amount = 90; amount <= 91; amount++) {
            Rig rig = Rig.with(Rig.WORD);
            rig.x.drop(0);
            rig.x.purchase(0, 0, amount, 1234);
            rig.deliver(6);
            Due.is("a WORD of the purchase before", feedWord(rig, 0, 0, 1, 4, 5), 0);
            Due.is("the same with the counter of this one", feedWord(rig, 0, 0, 2, 4, 5), 0);
            rig.x.drop(0);
            rig.x.purchase(0, 0, amount, 1234);
            rig.deliver(5);
            rig.change(0, Rig.F_COUNTER, 1);
            rig.deliver(1);
            Due.is("a WORD of the same counter", feedWord(rig, 0, 0, 1, 4, 5), amount == 90 ? 1 : 0);
        }
    }

    private static void wordOfAnotherCard() {
        Due.sentence(PART, "8, card, counter, word, amount (card and counter as in its REQUEST, and as in WORD");
        Rig rig = Rig.with(Rig.WORD);
        rig.x.card(1234, 100, 1, 500);
        rig.x.drop(0);
        rig.x.purchase(0, 1, 90, 1234);
        rig.deliver(6);
        Due.is("REQUEST of the other card's first counter", rig.field(0, Rig.F_COUNTER), 1);
        Due.is("a WORD for another card", feedWord(rig, 0, 0, 1, 4, 5), 0);
        Due.is("the same with the number of this card", feedWord(rig, 0, 1, 1, 4, 5), 0);
    }

    private static void wordOfAnotherTerminal() {
        Due.sentence(PART, "WORD, if the mac is good for its own key");
        Rig rig = Rig.with(Rig.WORD);
        rig.x.terminal(50, 80);
        rig.x.drop(0);
        rig.x.purchase(1, 0, 90, 1234);
        rig.deliver(5);
        rig.change(0, Rig.F_COUNTER, 1);
        rig.deliver(1);
        Due.is("a WORD for another terminal", feedWord(rig, 1, 0, 1, 4, 5), 0);
        Due.is("it waits", rig.x.outcome(1), 0);
    }

    private static void wordWithAnotherSeal() {
        Due.sentence(PART, "it sends END with word and seal, and waits for LAST");
        Rig seal = Rig.with(Rig.WORD);
        seal.change(0, Rig.F_SEAL, 4294967295L);
        Due.is("WORD with another seal is taken", seal.x.deliver(0), 1);
        Due.is("END has it", seal.field(0, Rig.F_SEAL), 4294967295L);
        Due.is("END has the word", seal.field(0, Rig.F_WORD), 1);
        seal.deliverAll();
        Due.is("refused by the card", seal.x.outcome(0), 3);
        Rig two = Rig.with(Rig.REQUEST);
        two.x.again(0);
        two.deliver(2);
        Due.is("the host said 0 last", two.field(1, Rig.F_WORD), 0);
        two.deliver(1);
        Due.is("END has the word that came", two.newest(Rig.F_WORD), 1);
        Due.is("END has the seal that came", two.newest(Rig.F_SEAL), 4);
    }

    private static void lastApproved() {
        Due.sentence(PART, "LAST: OUTCOME 1 if the word was 1, the answer is 2, and the seal is good for the card's key and "
            + "10, 2, amount, un, its number, counter of REQUEST");
        outcomeOfChanged("LAST as it is", Rig.LAST, Rig.F_ANSWER, 2, 1);
    }

    /** The card has all that it needs for a LAST of 2, but this terminal was told 0. */
    private static void lastAfterAWordOfZero() {
        Due.sentence(PART, "LAST: OUTCOME 1 if the word was 1");
        Rig rig = Rig.with(Rig.REQUEST);
        rig.x.again(0);
        rig.deliver(2);
        long seal = rig.field(0, Rig.F_SEAL);
        Due.is("the first word", rig.field(0, Rig.F_WORD), 1);
        Due.is("the second word", rig.field(1, Rig.F_WORD), 0);
        rig.x.deliver(1);
        rig.dropAll();
        rig.end(0, seal, 1);
        Due.is("LAST 2", rig.newest(Rig.F_ANSWER), 2);
        rig.deliver(1);
        Due.is("refused", rig.x.outcome(0), 3);
        Rig poor = Rig.usual();
        poor.x.purchase(0, 0, 501, 1234);
        poor.deliver(9);
        Due.is("LAST 0", poor.field(0, Rig.F_ANSWER), 0);
        poor.change(0, Rig.F_ANSWER, 2);
        poor.deliver(1);
        Due.is("refused without money", poor.x.outcome(0), 3);
    }

    private static void lastWithAnotherAnswer() {
        Due.sentence(PART, "the answer is 2");
        int[] answers = {0, 1, 3, 255};
        for (int answer : answers) {
            outcomeOfChanged("LAST " + answer, Rig.LAST, Rig.F_ANSWER, answer, 3);
        }
        Rig rig = Rig.with(Rig.END);
        rig.change(0, Rig.F_WORD, 0);
        rig.deliver(1);
        Due.is("LAST 0", rig.field(0, Rig.F_ANSWER), 0);
        rig.deliver(1);
        Due.is("refused, though its word was 1", rig.x.outcome(0), 3);
    }

    private static void lastWithAnotherSeal() {
        Due.sentence(PART, "and the seal is good for the card's key and 10, 2, amount, un, its number, counter of REQUEST; "
            + "otherwise OUTCOME 3");
        long[] seals = {0, 1, 5, 7, 4294967295L};
        for (long seal : seals) {
            outcomeOfChanged("LAST with seal " + seal, Rig.LAST, Rig.F_SEAL, seal, 3);
        }
        Rig rig = Rig.with(Rig.END);
        rig.change(0, Rig.F_WORD, 0);
        rig.deliver(1);
        rig.change(0, Rig.F_ANSWER, 2);
        rig.deliver(1);
        Due.is("LAST 0 that comes as 2", rig.x.outcome(0), 3);
    }

    /** Two terminals at one card: the card's LAST has what was asked last, not what began. */
    private static void lastOfTwoTerminals() {
        Due.sentence(PART, "10, 2, amount, un, its number, counter of REQUEST");
        Rig rig = Rig.usual();
        rig.x.terminal(0, 1000);
        rig.x.purchase(0, 0, 60, 0);
        rig.x.purchase(1, 0, 70, 0);
        rig.deliver(3);
        Due.is("ASK of the first terminal", rig.x.at(1, 0), Rig.ASK);
        Due.is("it is taken", rig.x.deliver(1), 1);
        rig.x.drop(0);
        Due.is("ANSWER of the second counter", rig.field(0, Rig.F_COUNTER), 2);
        rig.deliver(5);
        Due.is("approved for the first terminal", rig.x.outcome(0), 1);
        Due.is("the debit's counter", rig.x.debit(0, 1), 2);
        Due.is("matched", rig.x.matched(), true);
    }

    private static void sendsToTheCardThatWasTold() {
        Due.sentence(PART, "All that it sends before an outcome to a card goes to the card that was told");
        Rig rig = standIn();
        rig.goesFromTo("ASK", 1, 0, 0, 0);
        long un = rig.newest(Rig.F_UN);
        rig.dropAll();
        rig.ask(1, 60, un, 0, 1);
        rig.deliver(3);
        Due.is("END", rig.newestKind(), Rig.END);
        rig.goesFromTo("END", 1, 0, 0, 0);
        Rig pin = Rig.usual();
        pin.x.card(1111, 100, 1, 900);
        un = pin.x.purchase(0, 0, 90, 0);
        pin.dropAll();
        pin.begin(1, un);
        pin.deliver(1);
        Due.is("PIN", pin.newestKind(), Rig.PIN);
        pin.goesFromTo("PIN", 1, 0, 0, 0);
        Rig others = Rig.usual();
        others.x.card(0, 0, 0, 0);
        others.x.purchase(0, 1, 10, 0);
        others.x.purchase(0, 0, 10, 0);
        others.goesFromTo("BEGIN", 1, 0, 0, 0);
    }

    private static void waitsTwentyTicks() {
        Due.sentence(PART, "It waits at most 20 ticks from when it sent last; beyond: OUTCOME 4");
        Rig one = Rig.usual();
        one.x.purchase(0, 0, 90, 1234);
        Due.is("20 ticks", one.x.tick(20), 0);
        Due.is("it waits", one.x.outcome(0), 0);
        Due.is("one more", one.x.tick(1), 1);
        Due.is("given up", one.x.outcome(0), 4);
        Rig atOnce = Rig.usual();
        atOnce.x.purchase(0, 0, 90, 1234);
        Due.is("21 ticks at once", atOnce.x.tick(21), 1);
        Due.is("given up", atOnce.x.outcome(0), 4);
        Rig singly = Rig.usual();
        singly.x.purchase(0, 0, 90, 1234);
        for (int i = 1; i <= 21; i++) {
            Due.is("tick " + i, singly.x.tick(1), i == 21 ? 1 : 0);
        }
        Rig before = Rig.usual();
        before.x.tick(100);
        before.x.purchase(0, 0, 90, 1234);
        Due.is("ticks before it do not count", before.x.tick(20), 0);
    }

    private static void waitsAnewAtEachStep() {
        Due.sentence(PART, "It waits at most 20 ticks from when it sent last; beyond: OUTCOME 4");
        for (int kind = 1; kind <= 10; kind++) {
            Rig rig = Rig.with(kind);
            Due.is("20 ticks before kind " + kind, rig.x.tick(20), 0);
            // What a card or the host does is no sending of the terminal.
            boolean sends = kind == Rig.CARD || kind == Rig.PINNED || kind == Rig.ANSWER || kind == Rig.WORD;
            rig.deliver(1);
            Due.is("a tick behind kind " + kind, rig.x.tick(1), sends || kind == Rig.LAST ? 0 : 1);
            if (sends) {
                Due.is("19 more behind kind " + kind, rig.x.tick(19), 0);
                Due.is("beyond, behind kind " + kind, rig.x.tick(1), 1);
            }
        }
        Rig thrown = Rig.with(Rig.WORD);
        thrown.x.tick(20);
        thrown.change(0, Rig.F_MAC, 0);
        thrown.deliver(1);
        Due.is("a WORD that is thrown away", thrown.x.tick(1), 1);
    }

    private static void waitsAfterALostMessage() {
        Due.sentence(PART, "It waits at most 20 ticks from when it sent last; beyond: OUTCOME 4");
        Rig rig = Rig.usual();
        rig.x.purchase(0, 0, 10, 0);
        rig.fillTo(60);
        rig.x.tick(20);
        rig.x.purchase(0, 0, 10, 0);
        Due.is("a lost BEGIN was sent", rig.x.tick(20), 0);
        Due.is("beyond", rig.x.tick(1), 1);
        Due.is("given up", rig.x.outcome(0), 4);
    }

    private static Rig withOutcome(int outcome) {
        Rig rig = Rig.usual();
        rig.x.purchase(0, 0, outcome == 2 ? 30 : 90, outcome == 3 ? 1 : 1234);
        if (outcome == 4) {
            rig.x.tick(21);
        } else {
            rig.deliverAll();
        }
        rig.dropAll();
        Due.is("outcome", rig.x.outcome(0), outcome);
        return rig;
    }

    private static void waitsForNothing() {
        Due.sentence(PART, "With an outcome it waits for nothing");
        for (int outcome = 1; outcome <= 4; outcome++) {
            for (int kind = 1; kind <= 11; kind++) {
                Rig rig = withOutcome(outcome);
                Due.is("kind " + kind + " with outcome " + outcome, rig.feed(0, 0, 1, 0, Rig.with(kind).bytes(0)), 0);
                Due.is("nothing is sent", rig.x.count(2), 0);
                Due.is("it does not give up", rig.x.tick(100), 0);
                Due.is("its outcome stays", rig.x.outcome(0), outcome);
            }
        }
    }
}
