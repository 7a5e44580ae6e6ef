/** "Terms", the part THE HOST: what it takes, its words, debits and accounts. */
public final class HostTest {
    private static final String PART = "Terms, THE HOST";

    public static void main(String[] args) {
        lastAtFirst();
        noSuchTerminal();
        macOfRequest();
        cardIsOne();
        sealOfAnswer();
        falseSealLeavesLast();
        counterAtLast();
        counterBelowLast();
        lastRisesWithoutMoney();
        lastsOfTwoCards();
        accountHasTheAmount();
        debitOrNot();
        wordGoesToTheTerminalThatIsTold();
        clearThrownAway();
        clearOfNoCard();
        clearWithFalseSeal();
        clearOfADebit();
        clearOfOtherDebits();
        clearBelowZero();
        clearLeavesLast();
        clearAnswersNothing();
        Due.end();
    }

    private static void lastAtFirst() {
        Due.sentence(PART, "a LAST counter (0 at first) for each card");
        Rig rig = Rig.with(Rig.REQUEST);
        Due.is("the first counter", rig.field(0, Rig.F_COUNTER), 1);
        rig.deliver(1);
        Due.is("it is above LAST", rig.field(0, Rig.F_WORD), 1);
    }

    private static void noSuchTerminal() {
        Due.sentence(PART, "REQUEST, if the terminal is one");
        int[] numbers = {1, 2, 255};
        for (int number : numbers) {
            Rig rig = Rig.with(Rig.REQUEST);
            rig.change(0, Rig.F_TERMINAL, number);
            Due.is("terminal " + number, rig.x.deliver(0), 0);
            Due.is("no answer", rig.x.count(2), 0);
        }
    }

    private static void macOfRequest() {
        Due.sentence(PART, "and the mac is good for its key and 7 and the fields before it (else thrown away)");
        int[] tags = {Rig.F_CARD, Rig.F_COUNTER, Rig.F_AMOUNT, Rig.F_UN, Rig.F_TERMINAL, Rig.F_WAY, Rig.F_SEAL, Rig.F_MAC};
        for (int tag : tags) {
            Rig rig = Rig.with(Rig.REQUEST);
            rig.x.terminal(0, 0);
            rig.x.card(0, 0, 0, 0);
            rig.change(0, tag, rig.field(0, tag) + 1);
            Due.is("REQUEST with another field " + tag, rig.x.deliver(0), 0);
            Due.is("no answer", rig.x.count(2), 0);
            Due.is("no debit", rig.x.count(3), 0);
        }
        Rig zero = Rig.with(Rig.REQUEST);
        zero.change(0, Rig.F_MAC, 0);
        Due.is("REQUEST with mac 0", zero.x.deliver(0), 0);
        Rig clear = Rig.with(Rig.CLEAR);
        clear.x.alter(0, 0, Rig.REQUEST);
        Due.is("a CLEAR that comes as REQUEST", clear.x.deliver(0), 0);
        Rig good = Rig.with(Rig.REQUEST);
        Due.is("REQUEST as it is", good.x.deliver(0), 1);
    }

    /** A terminal keeps only cards that there are, so one is changed behind its back. */
    private static void cardIsOne() {
        Due.sentence(PART, "it is RIGHT if the card is one");
        int[] numbers = {1, 255};
        for (int number : numbers) {
            Rig rig = Rig.with(Rig.ANSWER);
            if (!Inside.isKnown(rig.x)) {
                return;
            }
            Inside.set(Inside.part(Inside.terminal(rig.x, 0), "payment"), "card", number);
            rig.deliver(1);
            Due.is("REQUEST for a card that there is not", rig.newest(Rig.F_CARD), number);
            Due.is("it is taken", rig.x.deliver(0), 1);
            Due.is("its word is 0", rig.newest(Rig.F_WORD), 0);
            Due.is("WORD has its number", rig.newest(Rig.F_CARD), number);
            Due.is("no debit", rig.x.count(3), 0);
        }
    }

    private static void sealOfAnswer() {
        Due.sentence(PART, "the seal is good for the card's key and 6, 1, amount, un, terminal, counter, way");
        long[][] changes = {{Rig.F_SEAL, 0}, {Rig.F_SEAL, 1}, {Rig.F_SEAL, 3}, {Rig.F_SEAL, 4294967295L},
            {Rig.F_COUNTER, 0}, {Rig.F_COUNTER, 2}, {Rig.F_COUNTER, 65535}};
        for (long[] change : changes) {
            Rig rig = Rig.with(Rig.ANSWER);
            rig.change(0, (int) change[0], change[1]);
            rig.deliver(1);
            Due.is("REQUEST is taken", rig.x.deliver(0), 1);
            Due.is("ANSWER with another field " + change[0] + ", the word", rig.field(0, Rig.F_WORD), 0);
            Due.is("no debit", rig.x.count(3), 0);
            Due.is("account", rig.x.account(0), 500);
        }
        Rig two = Rig.usual();
        two.x.purchase(0, 0, 30, 0);
        two.deliver(3);
        two.change(0, Rig.F_ANSWER, 1);
        two.deliver(2);
        Due.is("an answer of 2 that comes as 1, the word", two.field(0, Rig.F_WORD), 0);
        Rig way = Rig.usual();
        way.x.purchase(0, 0, 60, 0);
        way.deliver(2);
        way.pin(0, 1234);
        way.x.drop(1);
        way.deliver(3);
        Due.is("an answer of another way, the word", way.field(0, Rig.F_WORD), 0);
    }

    private static void falseSealLeavesLast() {
        Due.sentence(PART, "and the counter is above LAST, which becomes it then");
        Rig rig = Rig.with(Rig.ANSWER);
        rig.change(0, Rig.F_COUNTER, 513);
        rig.deliver(2);
        Due.is("a false counter, the word", rig.field(0, Rig.F_WORD), 0);
        rig.dropAll();
        rig.x.purchase(0, 0, 90, 1234);
        rig.deliver(7);
        Due.is("a true counter below it, the word", rig.field(0, Rig.F_WORD), 1);
    }

    private static void counterAtLast() {
        Due.sentence(PART, "and the counter is above LAST");
        Rig rig = Rig.with(Rig.REQUEST);
        rig.fillTo(3);
        for (int i = 0; i < 3; i++) {
            Due.is("REQUEST is taken", rig.x.deliver(0), 1);
            Due.is("its word, time " + i, rig.newest(Rig.F_WORD), i == 0 ? 1 : 0);
            Due.is("one debit", rig.x.count(3), 1);
            Due.is("account", rig.x.account(0), 410);
        }
    }

    /** REQUESTs of the first and the second counter wait; the second purchase is of so much. */
    private static Rig withTwoRequests(long second) {
        Rig rig = Rig.usual();
        rig.x.terminal(0, 1000);
        rig.x.purchase(0, 0, 60, 0);
        rig.deliver(4);
        rig.x.purchase(1, 0, second, 0);
        for (int i = 0; i < 4; i++) {
            rig.x.deliver(1);
        }
        Due.is("the first REQUEST", rig.field(0, Rig.F_COUNTER), 1);
        Due.is("the second REQUEST", rig.field(1, Rig.F_COUNTER), 2);
        return rig;
    }

    private static void counterBelowLast() {
        Due.sentence(PART, "and the counter is above LAST");
        Rig rig = withTwoRequests(70);
        rig.x.deliver(1);
        Due.is("the newer counter", rig.field(1, Rig.F_WORD), 1);
        rig.x.deliver(0);
        Due.is("the older counter", rig.field(1, Rig.F_WORD), 0);
        Due.is("WORD has the older counter", rig.field(1, Rig.F_COUNTER), 1);
        Due.is("one debit", rig.x.count(3), 1);
        Due.is("its counter", rig.x.debit(0, 1), 2);
        Rig inOrder = withTwoRequests(70);
        inOrder.deliver(2);
        Due.is("the older first", inOrder.field(0, Rig.F_WORD), 1);
        Due.is("the newer then", inOrder.field(1, Rig.F_WORD), 1);
    }

    private static void lastRisesWithoutMoney() {
        Due.sentence(PART, "which becomes it then");
        Rig rig = withTwoRequests(900);
        rig.x.deliver(1);
        Due.is("the newer counter, no money", rig.field(1, Rig.F_WORD), 0);
        rig.x.deliver(0);
        Due.is("the older counter, with money", rig.field(1, Rig.F_WORD), 0);
        Due.is("no debit", rig.x.count(3), 0);
        Due.is("account", rig.x.account(0), 500);
    }

    private static void lastsOfTwoCards() {
        Due.sentence(PART, "THE HOST has an ACCOUNT and a LAST counter (0 at first) for each card");
        Rig rig = Rig.with(Rig.LAST);
        rig.deliver(1);
        rig.x.card(1234, 100, 1, 700);
        rig.x.purchase(0, 1, 90, 1234);
        rig.deliver(7);
        Due.is("the first counter of another card", rig.newest(Rig.F_COUNTER), 1);
        Due.is("its word", rig.newest(Rig.F_WORD), 1);
        Due.is("its account", rig.x.account(1), 610);
        Due.is("the other account", rig.x.account(0), 410);
    }

    private static void accountHasTheAmount() {
        Due.sentence(PART, "The word is 1 if it is right and the account has the amount");
        long[] accounts = {0, 1, 500, 1000000000L, 1000000000000L};
        for (long cents : accounts) {
            for (long amount = cents - 1; amount <= cents + 1; amount++) {
                if (amount >= 1 && amount <= 1000000000L) {
                    wordWith(cents, amount);
                }
            }
        }
        wordWith(1000000000000L, 1000000000L);
        wordWith(999999999L, 1000000000L);
    }

    private static void wordWith(long cents, long amount) {
        Rig rig = new Rig();
        rig.x.card(1234, 0, 0, cents);
        rig.x.terminal(0, 0);
        rig.x.purchase(0, 0, amount, 1234);
        rig.deliver(7);
        boolean has = cents >= amount;
        Due.is("account " + cents + ", amount " + amount + ", the word", rig.field(0, Rig.F_WORD), has ? 1 : 0);
        Due.is("debits", rig.x.count(3), has ? 1 : 0);
        Due.is("account then", rig.x.account(0), has ? cents - amount : cents);
        rig.deliver(3);
        Due.is("outcome", rig.x.outcome(0), has ? 1 : 3);
    }

    private static void debitOrNot() {
        Due.sentence(PART, "a DEBIT; otherwise 0");
        Rig rig = new Rig();
        rig.x.card(1234, 0, 0, 100);
        rig.x.terminal(0, 0);
        long[] amounts = {60, 41, 40, 1};
        int[] words = {1, 0, 1, 0};
        long[] accounts = {40, 40, 0, 0};
        for (int i = 0; i < amounts.length; i++) {
            rig.x.purchase(0, 0, amounts[i], 1234);
            rig.deliver(7);
            Due.is("the word for " + amounts[i], rig.newest(Rig.F_WORD), words[i]);
            Due.is("account", rig.x.account(0), accounts[i]);
            rig.dropAll();
        }
        Due.is("debits", rig.x.count(3), 2);
    }

    private static void wordGoesToTheTerminalThatIsTold() {
        Due.sentence(PART, "to the terminal that is told");
        Rig rig = Rig.with(Rig.REQUEST);
        rig.x.terminal(0, 0);
        int[] bytes = rig.bytes(0);
        rig.dropAll();
        Due.is("REQUEST in another's name", rig.feed(1, 1, 2, 0, bytes), 1);
        rig.goesFromTo("WORD", 2, 0, 1, 0);
        Rig second = Rig.usual();
        second.x.terminal(50, 80);
        second.x.purchase(1, 0, 60, 0);
        second.deliver(5);
        second.goesFromTo("WORD to the second", 2, 0, 1, 1);
        wordsOfTwoCards();
    }

    /** The second card's REQUEST is the last that was written when the first card's comes to the host. */
    private static void wordsOfTwoCards() {
        Rig rig = Rig.usual();
        rig.x.card(1111, 100, 1, 900);
        rig.x.terminal(0, 1000);
        rig.begin(1, 5);
        rig.dropAll();
        rig.x.purchase(0, 0, 60, 0);
        rig.deliver(4);
        rig.x.purchase(1, 1, 70, 0);
        for (int i = 0; i < 4; i++) {
            rig.x.deliver(1);
        }
        rig.deliver(2);
        for (int k = 0; k < 2; k++) {
            Due.is("WORD", rig.x.at(k, 0), Rig.WORD);
            Due.is("card", rig.field(k, Rig.F_CARD), k);
            Due.is("counter", rig.field(k, Rig.F_COUNTER), k + 1);
            Due.is("word", rig.field(k, Rig.F_WORD), 1);
            Due.is("terminal", rig.x.message(k, 3), k);
            Due.is("account", rig.x.account(k), k == 0 ? 440 : 830);
        }
    }

    private static void clearThrownAway() {
        Due.sentence(PART, "CLEAR, if the terminal is one, the mac is good for its key and 11 and the fields before it");
        int[] tags = {Rig.F_CARD, Rig.F_COUNTER, Rig.F_AMOUNT, Rig.F_UN, Rig.F_TERMINAL, Rig.F_WAY, Rig.F_SEAL, Rig.F_MAC};
        for (int more = 0; more <= 1; more++) {
            for (int tag : tags) {
                Rig rig = Rig.with(Rig.CLEAR);
                if (more == 1) {
                    rig.x.terminal(0, 0);
                    rig.x.card(0, 0, 0, 0);
                }
                rig.change(0, tag, rig.field(0, tag) + 1);
                Due.is("CLEAR with another field " + tag, rig.x.deliver(0), 0);
                Due.is("no debit", rig.x.count(3), 0);
                Due.is("account", rig.x.account(0), 500);
            }
        }
        int[] numbers = {1, 255};
        for (int number : numbers) {
            Rig rig = Rig.with(Rig.CLEAR);
            rig.change(0, Rig.F_TERMINAL, number);
            Due.is("terminal " + number, rig.x.deliver(0), 0);
        }
        Rig request = Rig.with(Rig.REQUEST);
        request.x.alter(0, 0, Rig.CLEAR);
        Due.is("a REQUEST that comes as CLEAR", request.x.deliver(0), 0);
        Rig good = Rig.with(Rig.CLEAR);
        Due.is("CLEAR as it is", good.x.deliver(0), 1);
        Due.is("its debit", good.x.count(3), 1);
        Due.is("its account", good.x.account(0), 470);
    }

    /** A batch has only true answers of cards that there are, so its first is changed behind the terminal's back. */
    private static Rig withFalseBatch(String name, int by) {
        Rig rig = Rig.usual();
        rig.x.purchase(0, 0, 30, 0);
        rig.deliver(4);
        if (!Inside.isKnown(rig.x)) {
            return null;
        }
        Object first = Inside.list(Inside.terminal(rig.x, 0), "batch").get(0);
        Inside.set(first, name, ((Number) Inside.part(first, name)).longValue() + by);
        rig.x.clear(0);
        return rig;
    }

    private static void clearIsThrownAway(Rig rig, String name) {
        if (rig != null) {
            Due.is(name, rig.x.deliver(0), 0);
            Due.is("no debit", rig.x.count(3), 0);
        }
    }

    private static void clearOfNoCard() {
        Due.sentence(PART, "the card is one");
        clearIsThrownAway(withFalseBatch("card", 1), "the number behind the last card");
        clearIsThrownAway(withFalseBatch("card", 255), "the highest number");
    }

    private static void clearWithFalseSeal() {
        Due.sentence(PART, "the seal is good for its key and 6, 2, amount, un, terminal, counter, way");
        String[] names = {"seal", "amount", "un", "counter", "way"};
        for (String name : names) {
            clearIsThrownAway(withFalseBatch(name, 1), "another " + name);
        }
        clearIsThrownAway(withFalseBatch("seal", -2), "seal 0");
    }

    private static void clearOfADebit() {
        Due.sentence(PART, "and there was no debit of this card with this counter: a debit");
        Rig rig = Rig.with(Rig.CLEAR);
        rig.x.again(0);
        Due.is("CLEAR", rig.x.deliver(0), 1);
        Due.is("CLEAR once more", rig.x.deliver(0), 0);
        Due.is("one debit", rig.x.count(3), 1);
        Due.is("account", rig.x.account(0), 470);
        Rig byRequest = Rig.usual();
        byRequest.x.purchase(0, 0, 60, 0);
        byRequest.deliver(8);
        byRequest.x.purchase(0, 0, 30, 0);
        byRequest.deliver(4);
        byRequest.x.clear(0);
        if (Inside.isKnown(byRequest.x)) {
            Inside.set(Inside.debits(byRequest.x).get(0), "counter", 2);
            Due.is("CLEAR of a counter that was debited by REQUEST", byRequest.x.deliver(0), 0);
        }
    }

    private static void clearOfOtherDebits() {
        Due.sentence(PART, "and there was no debit of this card with this counter: a debit");
        Rig rig = new Rig();
        rig.x.card(0, 1000, 9, 100);
        rig.x.card(0, 1000, 9, 100);
        rig.x.terminal(1000, 1000);
        for (int i = 0; i < 4; i++) {
            rig.x.purchase(0, i % 2, 10, 0);
            rig.deliver(4);
        }
        Due.is("four in the batch", rig.x.clear(0), 4);
        for (int i = 0; i < 4; i++) {
            Due.is("card " + i % 2 + ", counter " + (i / 2 + 1), rig.x.deliver(0), 1);
        }
        Due.is("four debits", rig.x.count(3), 4);
        Due.is("account", rig.x.account(0), 80);
        Due.is("account", rig.x.account(1), 80);
    }

    private static void clearBelowZero() {
        Due.sentence(PART, "(the account may come below 0; LAST stays as it is)");
        Rig rig = new Rig();
        rig.x.card(1234, 1000000000L, 9, 1);
        rig.x.terminal(1000000000L, 0);
        for (int i = 0; i < 9; i++) {
            rig.x.purchase(0, 0, i == 0 ? 1 : 1000000000L, 1234);
            rig.deliver(6);
            Due.is("approved without it", rig.x.outcome(0), 2);
        }
        rig.x.clear(0);
        for (int i = 0; i < 9; i++) {
            Due.is("CLEAR is taken", rig.x.deliver(0), 1);
            Due.is("account", rig.x.account(0), -1000000000L * i);
        }
        rig.x.purchase(0, 0, 1, 1234);
        rig.deliver(7);
        Due.is("an account below 0 has no amount", rig.newest(Rig.F_WORD), 0);
    }

    /** The card pays with its first counter without the host and with its second by it, and the other way round. */
    private static void clearLeavesLast() {
        Due.sentence(PART, "LAST stays as it is");
        Rig rig = Rig.usual();
        rig.x.purchase(0, 0, 30, 0);
        rig.deliver(4);
        rig.x.purchase(0, 0, 60, 0);
        rig.deliverAll();
        Due.is("by the host", rig.x.outcome(0), 1);
        rig.x.clear(0);
        Due.is("CLEAR of a counter below LAST", rig.x.deliver(0), 1);
        Due.is("account", rig.x.account(0), 410);
        Rig later = new Rig();
        later.x.card(0, 1000, 9, 500);
        later.x.terminal(20, 1000);
        later.x.purchase(0, 0, 60, 0);
        later.deliver(4);
        int held = later.x.purchase(0, 0, 10, 0);
        for (int i = 0; i < 4; i++) {
            later.x.deliver(1);
        }
        later.x.clear(0);
        Due.is("CLEAR of the second counter", later.x.deliver(1), 1);
        Due.is("its un", later.x.debit(0, 3), held);
        later.x.deliver(0);
        Due.is("REQUEST of the first counter is right", later.field(0, Rig.F_WORD), 1);
        Due.is("account", later.x.account(0), 430);
        Due.is("matched", later.x.matched(), true);
    }

    private static void clearAnswersNothing() {
        Due.sentence(PART, "It answers nothing");
        Rig rig = Rig.with(Rig.CLEAR);
        int seals = rig.x.count(4);
        rig.deliver(1);
        Due.is("messages", rig.x.count(2), 0);
        Due.is("seals", rig.x.count(4), seals);
    }
}
