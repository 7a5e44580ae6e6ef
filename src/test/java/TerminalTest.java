/** Promises 4, 12, 13 and 15: purchases, their outcomes, time, and the batch. */
public final class TerminalTest {
    public static void main(String[] args) {
        uns();
        purchaseRefused();
        endsTheOneBefore();
        cardMessage();
        anotherCard();
        pinFrom();
        pinned();
        floor();
        answers();
        answersWithoutHost();
        request();
        word();
        wordOfAnotherPurchase();
        wordOfAnotherCard();
        wordOfAnotherTerminal();
        last();
        lastThatWasRefused();
        lastOfTwoTerminals();
        ticks();
        tickRefused();
        clear();
        clearWithLoss();
        outcome();
        Due.end();
    }

    private static void uns() {
        Rig rig = new Rig();
        rig.x.card(0, 0, 0, 0);
        long[] draws = new long[8];
        for (int t = 0; t < 8; t++) {
            rig.x.terminal(0, 0);
            draws[t] = 12345 + t;
        }
        for (int i = 0; i < 200; i++) {
            int t = i * 5 % 8;
            draws[t] = Rig.draw(draws[t]);
            Due.is("P4 un", rig.x.purchase(t, 0, 1 + i, 0), draws[t]);
            Due.is("P4 BEGIN", rig.newest(Rig.F_UN), draws[t]);
            Due.is("P4 its sender", rig.x.message(0, 1), t);
            rig.dropAll();
        }
        Due.is("P4 purchases", rig.x.count(5), 200);
    }

    private static void purchaseRefused() {
        Rig rig = Rig.usual();
        Due.is("P4 terminal below", rig.x.purchase(-1, 0, 1, 0), -1);
        Due.is("P4 terminal above", rig.x.purchase(1, 0, 1, 0), -1);
        Due.is("P4 card below", rig.x.purchase(0, -1, 1, 0), -1);
        Due.is("P4 card above", rig.x.purchase(0, 1, 1, 0), -1);
        Due.is("P4 amount 0", rig.x.purchase(0, 0, 0, 0), -1);
        Due.is("P4 amount above", rig.x.purchase(0, 0, 1000000001L, 0), -1);
        Due.is("P4 amount like 1 in an int", rig.x.purchase(0, 0, (1L << 32) + 1, 0), -1);
        Due.is("P4 pin below", rig.x.purchase(0, 0, 1, -1), -1);
        Due.is("P4 pin above", rig.x.purchase(0, 0, 1, 10000), -1);
        Due.is("P4 extremes", rig.x.purchase(Integer.MIN_VALUE, Integer.MAX_VALUE, Long.MIN_VALUE, 0), -1);
        Due.is("P4 nothing was sent", rig.x.count(2), 0);
        Due.is("P4 nothing was bought", rig.x.count(5), 0);
        Due.is("P4 nothing was drawn", rig.x.purchase(0, 0, 1, 0), 1406932606L);
        Due.is("P4 most", rig.x.purchase(0, 0, 1000000000L, 9999), 654583775L);
    }

    private static void endsTheOneBefore() {
        Rig rig = Rig.usual();
        rig.x.purchase(0, 0, 30, 0);
        rig.deliver(1);
        rig.x.purchase(0, 0, 30, 0);
        Due.is("P4 CARD for the one before", rig.x.deliver(0), 1);
        Due.is("P15 refused, for its un", rig.x.outcome(0), 3);
        rig.x.purchase(0, 0, 30, 0);
        Due.is("P15 none yet", rig.x.outcome(0), 0);
        Rig waiting = Rig.with(Rig.LAST);
        waiting.x.purchase(0, 0, 30, 0);
        Due.is("P4 LAST for the one before", waiting.x.deliver(0), 0);
        Due.is("P15 the new one waits", waiting.x.outcome(0), 0);
        waiting.deliver(4);
        Due.is("P15 the new one goes on", waiting.x.outcome(0), 2);
    }

    private static void outcomeOfChanged(String name, int kind, int tag, long value, int outcome) {
        Rig rig = Rig.with(kind);
        rig.change(0, tag, value);
        Due.is(name + " is taken", rig.x.deliver(0), 1);
        rig.deliverAll();
        Due.is(name, rig.x.outcome(0), outcome);
        Due.is(name + ", debits", rig.x.count(3), kind == Rig.LAST || outcome == 1 ? 1 : 0);
    }

    private static void cardMessage() {
        outcomeOfChanged("no such card", Rig.CARD, Rig.F_CARD, 1, 3);
        outcomeOfChanged("no such card at all", Rig.CARD, Rig.F_CARD, 255, 3);
        outcomeOfChanged("another counter", Rig.CARD, Rig.F_COUNTER, 2, 3);
        outcomeOfChanged("another seal", Rig.CARD, Rig.F_SEAL, 2, 3);
        outcomeOfChanged("seal 0", Rig.CARD, Rig.F_SEAL, 0, 3);
        outcomeOfChanged("a seal beyond all", Rig.CARD, Rig.F_SEAL, 4294967295L, 3);
        outcomeOfChanged("another un", Rig.BEGIN, Rig.F_UN, 5, 3);
        outcomeOfChanged("as it is", Rig.CARD, Rig.F_CARD, 0, 1);
        Rig refused = Rig.with(Rig.CARD);
        refused.change(0, Rig.F_SEAL, 9);
        refused.deliver(1);
        Due.is("nothing is sent with an outcome", refused.x.count(2), 0);
    }

    /** Card 1 stands in for card 0 at the wires: the terminal keeps card 1, but sends to card 0. */
    private static void anotherCard() {
        Rig rig = Rig.usual();
        rig.x.card(1111, 100, 1, 900);
        long un = rig.x.purchase(0, 0, 60, 0);
        rig.dropAll();
        rig.begin(1, un);
        Due.is("CARD of another card", rig.x.deliver(0), 1);
        Due.is("ASK goes to the card that was told", rig.x.message(0, 3), 0);
        rig.dropAll();
        rig.ask(1, 60, un, 0, 1);
        rig.deliver(1);
        Due.is("REQUEST is for the card that was kept", rig.field(0, Rig.F_CARD), 1);
        rig.deliver(2);
        Due.is("END goes to the card that was told", rig.x.message(0, 3), 0);
        long seal = rig.field(0, Rig.F_SEAL);
        rig.dropAll();
        rig.feedCard(1, Rig.END, Rig.F_SEAL, seal, Rig.F_WORD, 1);
        rig.deliver(1);
        Due.is("the card that was kept pays", rig.x.outcome(0), 1);
        Due.is("its account", rig.x.account(1), 840);
        Due.is("the other account", rig.x.account(0), 500);
    }

    private static void pinFrom() {
        for (int amount = 79; amount <= 81; amount++) {
            Rig rig = Rig.usual();
            rig.x.purchase(0, 0, amount, 4321);
            rig.deliver(2);
            Due.is("PIN from 80 on", rig.newestKind(), amount >= 80 ? Rig.PIN : Rig.ASK);
            if (amount >= 80) {
                Due.is("what was typed", rig.newest(Rig.F_PIN), 4321);
            }
        }
    }

    private static void pinned() {
        outcomeOfChanged("PINNED 0", Rig.PINNED, Rig.F_WAY, 0, 3);
        outcomeOfChanged("PINNED 2", Rig.PINNED, Rig.F_WAY, 2, 3);
        outcomeOfChanged("PINNED 255", Rig.PINNED, Rig.F_WAY, 255, 3);
        outcomeOfChanged("PINNED 1", Rig.PINNED, Rig.F_WAY, 1, 1);
        outcomeOfChanged("a wrong PIN", Rig.PIN, Rig.F_PIN, 1, 3);
        Rig lie = Rig.usual();
        lie.x.purchase(0, 0, 90, 1);
        lie.deliver(3);
        lie.change(0, Rig.F_WAY, 1);
        lie.deliverAll();
        Due.is("a lie about the PIN", lie.x.outcome(0), 3);
        Due.is("has no debit", lie.x.count(3), 0);
    }

    private static void floor() {
        for (int amount = 49; amount <= 51; amount++) {
            Rig rig = Rig.usual();
            rig.x.purchase(0, 0, amount, 0);
            rig.deliver(2);
            Due.is("2 is asked up to 50", rig.newest(Rig.F_ANSWER), amount <= 50 ? 2 : 1);
            Due.is("amount", rig.newest(Rig.F_AMOUNT), amount);
            Due.is("terminal", rig.newest(Rig.F_TERMINAL), 0);
            Due.is("un", rig.newest(Rig.F_UN), 1406932606L);
            rig.deliver(2);
            Due.is("outcome", rig.x.outcome(0), amount <= 50 ? 2 : 0);
        }
    }

    private static void answers() {
        outcomeOfChanged("ANSWER 0", Rig.ANSWER, Rig.F_ANSWER, 0, 3);
        outcomeOfChanged("ANSWER 3", Rig.ANSWER, Rig.F_ANSWER, 3, 3);
        outcomeOfChanged("ANSWER 255", Rig.ANSWER, Rig.F_ANSWER, 255, 3);
        outcomeOfChanged("ANSWER 2 that was 1", Rig.ANSWER, Rig.F_ANSWER, 2, 3);
        outcomeOfChanged("ANSWER with another way", Rig.ANSWER, Rig.F_WAY, 2, 1);
        outcomeOfChanged("ANSWER with another counter", Rig.ANSWER, Rig.F_COUNTER, 7, 3);
        outcomeOfChanged("ANSWER with another seal", Rig.ANSWER, Rig.F_SEAL, 1, 3);
        outcomeOfChanged("0 is asked", Rig.ASK, Rig.F_ANSWER, 0, 3);
        outcomeOfChanged("2 is asked for it", Rig.ASK, Rig.F_ANSWER, 2, 2);
        outcomeOfChanged("another amount is asked", Rig.ASK, Rig.F_AMOUNT, 9, 3);
        outcomeOfChanged("another un is asked", Rig.ASK, Rig.F_UN, 9, 3);
        outcomeOfChanged("another terminal is asked", Rig.ASK, Rig.F_TERMINAL, 9, 3);
    }

    private static Rig withAnswerOfTwo() {
        Rig rig = Rig.usual();
        rig.x.purchase(0, 0, 30, 0);
        rig.deliver(3);
        Due.is("ANSWER 2", rig.field(0, Rig.F_ANSWER), 2);
        return rig;
    }

    private static void answersWithoutHost() {
        int[][] changes = {{Rig.F_COUNTER, 2}, {Rig.F_WAY, 1}, {Rig.F_SEAL, 1}, {Rig.F_SEAL, 3}, {Rig.F_ANSWER, 0}};
        for (int[] change : changes) {
            Rig rig = withAnswerOfTwo();
            rig.change(0, change[0], change[1]);
            Due.is("ANSWER is taken", rig.x.deliver(0), 1);
            Due.is("refused", rig.x.outcome(0), 3);
            Due.is("nothing in the batch", rig.x.clear(0), 0);
        }
        Rig good = withAnswerOfTwo();
        good.deliver(1);
        Due.is("approved without it", good.x.outcome(0), 2);
        Due.is("nothing is sealed for the batch yet", good.x.count(4), 2);
        Due.is("one in the batch", good.x.clear(0), 1);
        keptCounter();
    }

    /** The card began anew behind the terminal's back: its answer is of another counter than the one kept. */
    private static void keptCounter() {
        Rig rig = Rig.usual();
        long un = rig.x.purchase(0, 0, 30, 0);
        rig.deliver(1);
        rig.begin(0, un);
        rig.x.drop(1);
        rig.deliver(2);
        Due.is("ANSWER of another counter", rig.field(0, Rig.F_COUNTER), 2);
        rig.deliver(1);
        Due.is("refused", rig.x.outcome(0), 3);
    }

    private static void request() {
        Rig rig = Rig.with(Rig.ANSWER);
        rig.change(0, Rig.F_COUNTER, 513);
        rig.change(0, Rig.F_SEAL, 77);
        rig.change(0, Rig.F_WAY, 9);
        rig.deliver(1);
        Due.is("REQUEST", rig.newestKind(), Rig.REQUEST);
        Due.is("the counter of the answer", rig.field(0, Rig.F_COUNTER), 513);
        Due.is("the seal of the answer", rig.field(0, Rig.F_SEAL), 77);
        Due.is("its own way", rig.field(0, Rig.F_WAY), 1);
        rig.deliver(1);
        Due.is("the host says 0", rig.field(0, Rig.F_WORD), 0);
        Due.is("WORD is taken", rig.x.deliver(0), 1);
        Due.is("END 0", rig.field(0, Rig.F_WORD), 0);
        rig.deliver(2);
        Due.is("refused", rig.x.outcome(0), 3);
    }

    private static void word() {
        int[][] changes = {{Rig.F_CARD, 1}, {Rig.F_COUNTER, 2}, {Rig.F_WORD, 0}, {Rig.F_WORD, 2}, {Rig.F_MAC, 4},
            {Rig.F_MAC, 0}, {Rig.F_MAC, 6}};
        for (int[] change : changes) {
            Rig rig = Rig.with(Rig.WORD);
            rig.x.again(0);
            rig.change(0, change[0], change[1]);
            Due.is("WORD is thrown away", rig.x.deliver(0), 0);
            Due.is("it waits", rig.x.outcome(0), 0);
            Due.is("the true WORD is taken", rig.x.deliver(0), 1);
        }
        Rig seal = Rig.with(Rig.WORD);
        seal.change(0, Rig.F_SEAL, 999);
        Due.is("WORD with another seal", seal.x.deliver(0), 1);
        Due.is("END has it", seal.field(0, Rig.F_SEAL), 999);
        seal.deliverAll();
        Due.is("refused by the card", seal.x.outcome(0), 3);
    }

    private static int feedWord(Rig rig, int terminal, int card, int counter, int seal, int mac) {
        return rig.feedTerminal(terminal, Rig.WORD, Rig.F_CARD, card, Rig.F_COUNTER, counter, Rig.F_SEAL, seal,
            Rig.F_WORD, 1, Rig.F_MAC, mac);
    }

    /** The WORD of counter 1 and 90 cents, with the seal 4 and the mac 5, comes to the purchase behind. */
    private static void wordOfAnotherPurchase() {
        for (int amount = 90; amount <= 91; amount++) {
            Rig rig = Rig.with(Rig.WORD);
            rig.x.drop(0);
            rig.x.purchase(0, 0, amount, 1234);
            rig.deliver(6);
            Due.is("a WORD of the purchase before", feedWord(rig, 0, 0, 1, 4, 5), 0);
            Due.is("the same with the counter of this one", feedWord(rig, 0, 0, 2, 4, 5), 0);
            rig.x.drop(0);
            rig.x.purchase(0, 0, amount, 1234);
            rig.deliver(5);
            rig.change(0, Rig.F_COUNTER, 1);
            rig.deliver(1);
            Due.is("a WORD of the same counter", feedWord(rig, 0, 0, 1, 4, 5), amount == 90 ? 1 : 0);
        }
    }

    private static void wordOfAnotherCard() {
        Rig rig = Rig.with(Rig.WORD);
        rig.x.card(1234, 100, 1, 500);
        rig.x.drop(0);
        rig.x.purchase(0, 1, 90, 1234);
        rig.deliver(6);
        Due.is("REQUEST of the other card's first counter", rig.field(0, Rig.F_COUNTER), 1);
        Due.is("a WORD for another card", feedWord(rig, 0, 0, 1, 4, 5), 0);
        Due.is("the same with the number of this card", feedWord(rig, 0, 1, 1, 4, 5), 0);
    }

    private static void wordOfAnotherTerminal() {
        Rig rig = Rig.with(Rig.WORD);
        rig.x.terminal(50, 80);
        rig.x.drop(0);
        rig.x.purchase(1, 0, 90, 1234);
        rig.deliver(5);
        rig.change(0, Rig.F_COUNTER, 1);
        rig.deliver(1);
        Due.is("a WORD for another terminal", feedWord(rig, 1, 0, 1, 4, 5), 0);
        Due.is("it waits", rig.x.outcome(1), 0);
    }

    /** The card was told a word of 0, but its LAST 0 comes as 2. */
    private static void lastThatWasRefused() {
        Rig rig = Rig.with(Rig.END);
        rig.change(0, Rig.F_WORD, 0);
        rig.deliver(1);
        Due.is("LAST 0", rig.field(0, Rig.F_ANSWER), 0);
        rig.change(0, Rig.F_ANSWER, 2);
        rig.deliver(1);
        Due.is("refused, though its word was 1", rig.x.outcome(0), 3);
    }

    private static void last() {
        outcomeOfChanged("LAST 0", Rig.LAST, Rig.F_ANSWER, 0, 3);
        outcomeOfChanged("LAST 1", Rig.LAST, Rig.F_ANSWER, 1, 3);
        outcomeOfChanged("LAST with another seal", Rig.LAST, Rig.F_SEAL, 5, 3);
        outcomeOfChanged("LAST", Rig.LAST, Rig.F_ANSWER, 2, 1);
        Rig rig = Rig.usual();
        rig.x.purchase(0, 0, 501, 1234);
        rig.deliver(7);
        Due.is("a word of 0", rig.field(0, Rig.F_WORD), 0);
        rig.deliver(2);
        Due.is("LAST 0", rig.field(0, Rig.F_ANSWER), 0);
        rig.change(0, Rig.F_ANSWER, 2);
        rig.deliver(1);
        Due.is("refused", rig.x.outcome(0), 3);
    }

    /** Two terminals at one card: the card's LAST has what was asked last, not what began. */
    private static void lastOfTwoTerminals() {
        Rig rig = Rig.usual();
        rig.x.terminal(0, 1000);
        rig.x.purchase(0, 0, 60, 0);
        rig.x.purchase(1, 0, 70, 0);
        rig.deliver(3);
        Due.is("ASK of the first terminal", rig.x.at(1, 0), Rig.ASK);
        Due.is("it is taken", rig.x.deliver(1), 1);
        rig.x.drop(0);
        Due.is("ANSWER of the second counter", rig.field(0, Rig.F_COUNTER), 2);
        rig.deliver(5);
        Due.is("approved for the first terminal", rig.x.outcome(0), 1);
        Due.is("the debit's counter", rig.x.debit(0, 1), 2);
        Due.is("matched", rig.x.matched(), true);
    }

    private static void ticks() {
        Rig rig = Rig.usual();
        rig.x.terminal(50, 80);
        Due.is("P12 nobody waits", rig.x.tick(100), 0);
        rig.x.purchase(0, 0, 90, 1234);
        Due.is("P12 20 ticks", rig.x.tick(20), 0);
        rig.deliver(2);
        Due.is("P12 from when it sent last", rig.x.tick(20), 0);
        Due.is("P15 it waits", rig.x.outcome(0), 0);
        rig.x.purchase(1, 0, 90, 1234);
        Due.is("P12 beyond, for one", rig.x.tick(1), 1);
        Due.is("P15 given up", rig.x.outcome(0), 4);
        Due.is("P12 given up once", rig.x.tick(19), 0);
        Due.is("P12 beyond, for the other", rig.x.tick(1), 1);
        Due.is("P15 given up", rig.x.outcome(1), 4);
        rig.deliver(1);
        Due.is("P12 with an outcome it waits for nothing", rig.x.deliver(1), 0);
        rig.x.purchase(0, 0, 90, 1234);
        rig.x.purchase(1, 0, 90, 1234);
        Due.is("P12 two at once", rig.x.tick(21), 2);
        tickAtEachStep();
    }

    private static void tickAtEachStep() {
        for (int kind = 1; kind <= 10; kind++) {
            Rig rig = Rig.with(kind);
            Due.is("P12 step " + kind, rig.x.tick(20), 0);
            // What a card or the host does is no sending of the terminal.
            boolean atTerminal = kind == Rig.CARD || kind == Rig.PINNED || kind == Rig.ANSWER || kind == Rig.WORD;
            rig.deliver(1);
            Due.is("P12 step " + kind + ", then", rig.x.tick(1), atTerminal || kind == Rig.LAST ? 0 : 1);
        }
        Rig thrown = Rig.with(Rig.WORD);
        thrown.x.tick(20);
        thrown.change(0, Rig.F_MAC, 0);
        thrown.deliver(1);
        Due.is("P12 a WORD that is thrown away", thrown.x.tick(1), 1);
        Rig ended = Rig.with(Rig.LAST);
        ended.deliver(1);
        Due.is("P12 an outcome stays", ended.x.tick(100), 0);
        Due.is("P15 an outcome stays", ended.x.outcome(0), 1);
    }

    private static void tickRefused() {
        Rig rig = Rig.usual();
        rig.x.purchase(0, 0, 90, 1234);
        Due.is("P12 n 0", rig.x.tick(0), -1);
        Due.is("P12 n below", rig.x.tick(-5), -1);
        Due.is("P12 n above", rig.x.tick(101), -1);
        Due.is("P12 extremes", rig.x.tick(Integer.MAX_VALUE), -1);
        Due.is("P15 it waits", rig.x.outcome(0), 0);
        Due.is("P12 n 100", rig.x.tick(100), 1);
    }

    private static Rig withBatch(int many) {
        Rig rig = new Rig();
        rig.x.card(0, 1000, 9, 100);
        rig.x.terminal(1000, 1000);
        rig.x.terminal(1000, 1000);
        for (int i = 0; i < many; i++) {
            rig.x.purchase(0, 0, 10 + i, 0);
            rig.deliver(4);
            Due.is("approved without it", rig.x.outcome(0), 2);
        }
        return rig;
    }

    private static void clear() {
        Rig rig = withBatch(3);
        int seals = rig.x.count(4);
        Due.is("P13 another terminal", rig.x.clear(1), 0);
        Due.is("P13 below", rig.x.clear(-1), -1);
        Due.is("P13 above", rig.x.clear(2), -1);
        Due.is("P13 extremes", rig.x.clear(Integer.MAX_VALUE), -1);
        Due.is("P13 three", rig.x.clear(0), 3);
        Due.is("P13 three seals", rig.x.count(4), seals + 3);
        for (int i = 0; i < 3; i++) {
            Due.is("P13 in its order", rig.field(i, Rig.F_AMOUNT), 10 + i);
            Due.is("P13 its own seal", rig.field(i, Rig.F_MAC), seals + 1 + i);
        }
        Due.is("P13 empty then", rig.x.clear(0), 0);
        Due.is("P15 the outcome stays", rig.x.outcome(0), 2);
        rig.deliver(3);
        Due.is("P13 debits", rig.x.count(3), 3);
        Due.is("P13 account", rig.x.account(0), 67);
    }

    private static void clearWithLoss() {
        Rig rig = withBatch(3);
        int seals = rig.x.count(4);
        for (int i = 0; i < 59; i++) {
            rig.x.purchase(1, 0, 1, 0);
        }
        Due.is("P13 one came", rig.x.clear(0), 1);
        Due.is("P13 sixty wait", rig.x.count(2), 60);
        Due.is("P13 those that are lost are sealed, too", rig.x.count(4), seals + 3);
        rig.dropAll();
        Due.is("P13 empty, also of those that are lost", rig.x.clear(0), 0);
    }

    private static void outcome() {
        Rig rig = Rig.usual();
        Due.is("P15 there was none", rig.x.outcome(0), 0);
        Due.is("P15 below", rig.x.outcome(-1), -1);
        Due.is("P15 above", rig.x.outcome(1), -1);
        Due.is("P15 extremes", rig.x.outcome(Integer.MIN_VALUE), -1);
        for (int i = 1; i <= 10; i++) {
            Due.is("P15 while it waits, before " + i, Rig.with(i).x.outcome(0), 0);
        }
    }
}
