/** Promises 1 to 10: each call at the edges that its promise names, and what a refused call leaves as it was. */
public final class PromisesTo10Test {
    public static void main(String[] args) {
        newObject();
        sixteenCards();
        cardArguments();
        eightTerminals();
        terminalArguments();
        purchaseArguments();
        purchaseRefusedChangesNothing();
        delivered();
        deliverOfNone();
        altered();
        alterRefused();
        dropped();
        dropOfNone();
        onceMore();
        againRefused();
        againAtSixty();
        bytesPut();
        putRefused();
        injected();
        injectRefused();
        injectOfNobody();
        injectAtSixty();
        Due.end();
    }

    private static void newObject() {
        Due.sentence("Promise 1", "No cards, no terminals, no messages.");
        CardPayments x = new CardPayments();
        Due.is("NONE", CardPayments.NONE, -1);
        for (int what = 0; what <= 5; what++) {
            Due.is("count " + what, x.count(what), 0);
        }
        Due.is("matched", x.matched(), true);
        Due.is("deliver", x.deliver(0), -1);
        Due.is("alter", x.alter(0, 0, 0), false);
        Due.is("drop", x.drop(0), false);
        Due.is("again", x.again(0), false);
        Due.is("inject", x.inject(2, 0, 2, 0), false);
        Due.is("power", x.power(0, 0), false);
        Due.is("tick", x.tick(100), 0);
        Due.is("clear", x.clear(0), -1);
        Due.is("outcome", x.outcome(0), -1);
        Due.is("told", x.told(0, 0), -1);
        Due.is("account", x.account(0), 0);
        Due.is("debit", x.debit(0, 0), -1);
        Due.is("message", x.message(0, 0), -1);
        Due.is("at", x.at(0, 0), -1);
        Due.is("purchase", x.purchase(0, 0, 1, 0), -1);
        Due.is("the stranger's row is empty", x.put(0), 1);
        CardPayments other = new CardPayments();
        Due.is("objects are apart", other.put(0), 1);
        Due.is("objects are apart", other.card(1, 1, 1, 1), 0);
        Due.is("objects are apart", x.count(0), 0);
    }

    private static void sixteenCards() {
        Due.sentence("Promise 2", "NONE when there are 16");
        CardPayments x = new CardPayments();
        for (int i = 0; i < 16; i++) {
            Due.is("card " + i, x.card(i, i, i % 10, 1000 + i), i);
        }
        Due.is("the seventeenth", x.card(0, 0, 0, 0), -1);
        Due.is("cards", x.count(0), 16);
        for (int i = 0; i < 16; i++) {
            Due.is("account of card " + i, x.account(i), 1000 + i);
            Due.is("tries of card " + i, x.told(i, 1), 3);
        }
        Due.is("the seventeenth has no account", x.account(16), 0);
    }

    private static void cardArguments() {
        CardPayments x = new CardPayments();
        Due.sentence("Promise 2", "or pin is not 0 .. 9999");
        Due.refuses("pin", -1, 0, 9999, pin -> x.card(pin, 0, 0, 0));
        Due.sentence("Promise 2", "or single not 0 .. 10^9");
        Due.refuses("single", -1, 0, 1000000000, single -> x.card(0, single, 0, 0));
        Due.is("single like 0 in an int", x.card(0, 1L << 32, 0, 0), -1);
        Due.is("single far above", x.card(0, Long.MAX_VALUE, 0, 0), -1);
        Due.is("single far below", x.card(0, Long.MIN_VALUE, 0, 0), -1);
        Due.sentence("Promise 2", "or most not 0 .. 9");
        Due.refuses("most", -1, 0, 9, most -> x.card(0, 0, most, 0));
        Due.sentence("Promise 2", "or cents not 0 .. 10^12");
        Due.is("cents below", x.card(0, 0, 0, -1), -1);
        Due.is("cents above", x.card(0, 0, 0, 1000000000001L), -1);
        Due.is("cents far above", x.card(0, 0, 0, Long.MAX_VALUE), -1);
        Due.is("cents far below", x.card(0, 0, 0, Long.MIN_VALUE), -1);
        Due.sentence("Promise 2", "One more card: its number");
        Due.is("none was made by those", x.count(0), 0);
        Due.is("all as low as can be", x.card(0, 0, 0, 0), 0);
        Due.is("all as high as can be", x.card(9999, 1000000000L, 9, 1000000000000L), 1);
        Due.is("its account", x.account(1), 1000000000000L);
        Due.is("a refused call takes no number", x.card(0, 0, 10, 0), -1);
        Due.is("the next number", x.card(1, 1, 1, 1), 2);
    }

    private static void eightTerminals() {
        Due.sentence("Promise 3", "NONE when there are 8");
        CardPayments x = new CardPayments();
        for (int i = 0; i < 8; i++) {
            Due.is("terminal " + i, x.terminal(i, i), i);
        }
        Due.is("the ninth", x.terminal(0, 0), -1);
        Due.is("terminals", x.count(1), 8);
        Due.is("the eighth", x.outcome(7), 0);
        Due.is("the ninth has no outcome", x.outcome(8), -1);
    }

    private static void terminalArguments() {
        CardPayments x = new CardPayments();
        Due.sentence("Promise 3", "or floor or pinFrom is not 0 .. 10^9");
        Due.refuses("floor", -1, 0, 1000000000, floor -> x.terminal(floor, 0));
        Due.refuses("pinFrom", -1, 0, 1000000000, pinFrom -> x.terminal(0, pinFrom));
        Due.is("floor like 0 in an int", x.terminal(1L << 32, 0), -1);
        Due.is("pinFrom like 0 in an int", x.terminal(0, 1L << 32), -1);
        Due.is("far away", x.terminal(Long.MIN_VALUE, 0), -1);
        Due.is("far away", x.terminal(0, Long.MAX_VALUE), -1);
        Due.sentence("Promise 3", "One more terminal: its number");
        Due.is("none was made by those", x.count(1), 0);
        Due.is("all as low as can be", x.terminal(0, 0), 0);
        Due.is("all as high as can be", x.terminal(1000000000L, 1000000000L), 1);
    }

    private static void purchaseArguments() {
        CardPayments x = Rig.usual().x;
        Due.sentence("Promise 4", "NONE when there is no such terminal or card");
        Due.refuses("terminal", -1, 0, 0, terminal -> x.purchase(terminal, 0, 1, 0));
        Due.refuses("card", -1, 0, 0, card -> x.purchase(0, card, 1, 0));
        Due.sentence("Promise 4", "or amount is not 1 .. 10^9");
        Due.refuses("amount", -1, 1, 1000000000, amount -> x.purchase(0, 0, amount, 0));
        Due.is("amount like 1 in an int", x.purchase(0, 0, (1L << 32) + 1, 0), -1);
        Due.is("amount far below", x.purchase(0, 0, Long.MIN_VALUE, 0), -1);
        Due.is("amount far above", x.purchase(0, 0, Long.MAX_VALUE, 0), -1);
        Due.sentence("Promise 4", "or pin not 0 .. 9999");
        Due.refuses("pin", -1, 0, 9999, pin -> x.purchase(0, 0, 1, pin));
        Due.sentence("Promise 4", "A purchase: its un");
        Due.is("nothing was bought by those", x.count(5), 0);
        Due.is("nothing was sent by those", x.count(2), 0);
        Due.is("as low as can be", x.purchase(0, 0, 1, 0), 1406932606L);
        Due.is("as high as can be", x.purchase(0, 0, 1000000000L, 9999), 654583775L);
        Due.is("two are bought", x.count(5), 2);
    }

    private static void purchaseRefusedChangesNothing() {
        Due.sentence("Promise 4", "NONE when there is no such terminal or card, or amount is not 1 .. 10^9, or pin not");
        Rig rig = Rig.with(Rig.WORD);
        rig.x.tick(20);
        String before = rig.picture();
        Due.is("no such card", rig.x.purchase(0, 1, 1, 0), -1);
        Due.is("amount 0", rig.x.purchase(0, 0, 0, 0), -1);
        Due.is("pin 10000", rig.x.purchase(0, 0, 1, 10000), -1);
        Due.is("all is as it was", rig.picture(), before);
        Due.is("it waits no longer for them", rig.x.tick(1), 1);
        Due.is("they draw nothing", rig.x.purchase(0, 0, 1, 0), 654583775L);
    }

    private static void delivered() {
        Due.sentence("Promise 5", "1 when it was taken, 0 when it was thrown away (it is gone in both cases)");
        for (int kind = 1; kind <= 11; kind++) {
            Rig taken = Rig.with(kind);
            Due.is("kind " + kind + " is taken", taken.x.deliver(0), 1);
            boolean answered = kind != Rig.LAST && kind != Rig.CLEAR;
            Due.is("it is gone, but for an answer", taken.x.count(2), answered ? 1 : 0);
            Due.is("another kind waits then", taken.x.at(0, 0) != kind, true);
            Rig thrown = Rig.with(kind);
            thrown.x.alter(0, 1, 99);
            Due.is("kind " + kind + " is thrown away", thrown.x.deliver(0), 0);
            Due.is("it is gone", thrown.x.count(2), 0);
        }
    }

    private static void deliverOfNone() {
        Due.sentence("Promise 5", "NONE when there is none such");
        Rig rig = Rig.with(Rig.ASK);
        String before = rig.picture();
        Due.refuses("message", -1, 0, 0, k -> rig.x.deliver(k));
        Due.is("all is as it was", rig.picture(), before);
        Rig three = Rig.usual();
        three.x.purchase(0, 0, 10, 0);
        three.fillTo(3);
        Due.refuses("message of three", -1, 0, 2, k -> three.x.deliver(k));
        Due.is("the last of three", three.x.deliver(2), 1);
    }

    private static void altered() {
        Due.sentence("Promise 6", "Byte i of message k becomes v");
        Rig rig = Rig.usual();
        rig.x.purchase(0, 0, 10, 0);
        rig.fillTo(2);
        Due.is("the first byte", rig.x.alter(1, 0, 0), true);
        Due.is("the last byte", rig.x.alter(1, 6, 255), true);
        Due.is("the first became", rig.x.at(1, 0), 0);
        Due.is("the last became", rig.x.at(1, 6), 255);
        Due.is("its length stays", rig.x.message(1, 4), 7);
        Due.is("the other message stays", rig.x.at(0, 0), 1);
        Due.is("the other message stays", rig.x.at(0, 6) == 255, false);
    }

    private static void alterRefused() {
        Due.sentence("Promise 6", "False when there is none such, or v is not 0 .. 255");
        Rig rig = Rig.usual();
        rig.x.purchase(0, 0, 10, 0);
        rig.fillTo(2);
        String before = rig.picture();
        Due.refuses("message", 0, 0, 1, k -> Due.bit(rig.x.alter(k, 0, 9)));
        Due.refuses("byte", 0, 0, 6, i -> Due.bit(rig.x.alter(0, i, 9)));
        Due.refuses("byte of the last", 0, 0, 6, i -> Due.bit(rig.x.alter(1, i, 9)));
        Due.refuses("value", 0, 0, 255, v -> Due.bit(rig.x.alter(0, 0, v)));
        Due.is("a byte as far as a row may go", rig.x.alter(0, 63, 9), false);
        Due.is("a byte farther", rig.x.alter(0, 64, 9), false);
        Due.is("all is as it was", rig.picture(), before);
    }

    private static void dropped() {
        Due.sentence("Promise 7", "Message k is gone");
        Rig rig = Rig.usual();
        long first = rig.x.purchase(0, 0, 10, 0);
        rig.x.purchase(0, 0, 10, 0);
        long third = rig.x.purchase(0, 0, 10, 0);
        Due.is("the second", rig.x.drop(1), true);
        Due.is("two are left", rig.x.count(2), 2);
        Due.is("the first", rig.field(0, Rig.F_UN), first);
        Due.is("the third is the second now", rig.field(1, Rig.F_UN), third);
        Due.is("the card knows of none", rig.x.told(0, 0), 0);
        Due.is("the last", rig.x.drop(1), true);
        Due.is("the only one", rig.x.drop(0), true);
        Due.is("none is left", rig.x.count(2), 0);
    }

    private static void dropOfNone() {
        Due.sentence("Promise 7", "False when there is none such");
        Rig rig = Rig.usual();
        Due.is("none waits", rig.x.drop(0), false);
        rig.x.purchase(0, 0, 10, 0);
        rig.fillTo(2);
        String before = rig.picture();
        Due.refuses("message", 0, 0, 1, k -> Due.bit(rig.x.drop(k)));
        Due.is("all is as it was", rig.picture(), before);
    }

    private static void onceMore() {
        Due.sentence("Promise 8", "Message k comes once more, behind all");
        Rig rig = Rig.usual();
        rig.x.terminal(0, 0);
        rig.x.card(0, 0, 0, 0);
        long un = rig.x.purchase(1, 1, 10, 0);
        rig.x.purchase(0, 0, 10, 0);
        rig.x.alter(0, 1, 99);
        Due.is("once more", rig.x.again(0), true);
        Due.is("three wait", rig.x.count(2), 3);
        rig.goesFromTo("it", 1, 1, 0, 1);
        Due.is("its bytes as they are now", rig.x.at(2, 1), 99);
        Due.is("its length", rig.x.message(2, 4), 7);
        rig.x.alter(0, 1, 4);
        Due.is("two messages, not one", rig.x.at(2, 1), 99);
        rig.x.alter(2, 1, 4);
        Due.is("its un", rig.field(2, Rig.F_UN), un);
        Due.is("the last once more", rig.x.again(2), true);
        Due.is("its un", rig.field(3, Rig.F_UN), un);
    }

    private static void againRefused() {
        Due.sentence("Promise 8", "False when there is none such");
        Rig rig = Rig.usual();
        Due.is("none waits", rig.x.again(0), false);
        rig.x.purchase(0, 0, 10, 0);
        rig.fillTo(2);
        String before = rig.picture();
        Due.refuses("message", 0, 0, 1, k -> Due.bit(rig.x.again(k)));
        Due.is("all is as it was", rig.picture(), before);
    }

    private static void againAtSixty() {
        Due.sentence("Promise 8", "or 60 wait");
        Rig rig = Rig.usual();
        rig.x.purchase(0, 0, 10, 0);
        rig.fillTo(59);
        Due.is("the sixtieth", rig.x.again(58), true);
        Due.is("one more", rig.x.again(0), false);
        Due.is("one more of the last", rig.x.again(59), false);
        Due.is("sixty wait", rig.x.count(2), 60);
        rig.x.drop(59);
        Due.is("a place is free", rig.x.again(0), true);
    }

    private static void bytesPut() {
        Due.sentence("Promise 9", "One byte more on the stranger's row: how many there are");
        Rig rig = Rig.usual();
        for (int i = 1; i <= 64; i++) {
            Due.is("byte " + i, rig.x.put(i * 4 - 1), i);
        }
        rig.x.inject(2, 0, 0, 0);
        Due.is("all bytes", rig.x.message(0, 4), 64);
        for (int i = 0; i < 64; i++) {
            Due.is("byte " + i, rig.x.at(0, i), i * 4 + 3);
        }
        Due.is("behind them", rig.x.at(0, 64), -1);
        Due.is("the lowest byte", rig.x.put(0), 1);
        Due.is("the highest byte", rig.x.put(255), 2);
    }

    private static void putRefused() {
        Due.sentence("Promise 9", "NONE when there are 64, or v is not 0 .. 255");
        Rig rig = Rig.usual();
        Due.refuses("value", -1, 0, 255, v -> rig.x.put(v));
        for (int i = 1; i <= 64; i++) {
            Due.is("byte " + i, rig.x.put(7), i);
        }
        Due.is("the next", rig.x.put(8), -1);
        Due.is("one more", rig.x.put(8), -1);
        Due.is("the row goes", rig.x.inject(2, 0, 0, 0), true);
        Due.is("64 bytes", rig.x.message(0, 4), 64);
        Due.is("its last byte", rig.x.at(0, 63), 7);
        Due.is("the row is empty", rig.x.put(8), 1);
    }

    private static void injected() {
        Due.sentence("Promise 10", "The stranger's row is a message, and empty then");
        Rig rig = Rig.usual();
        rig.x.card(0, 0, 0, 0);
        rig.x.card(0, 0, 0, 0);
        rig.x.terminal(0, 0);
        int[] highest = {2, 1, 0};
        int k = 0;
        for (int fromSort = 0; fromSort <= 2; fromSort++) {
            for (int toSort = 0; toSort <= 2; toSort++) {
                rig.put(k, 200);
                Due.is("inject", rig.x.inject(fromSort, highest[fromSort], toSort, highest[toSort]), true);
                rig.goesFromTo("message " + k, fromSort, highest[fromSort], toSort, highest[toSort]);
                Due.is("size", rig.x.message(k, 4), 2);
                Due.is("byte 0", rig.x.at(k, 0), k);
                Due.is("byte 1", rig.x.at(k, 1), 200);
                k++;
            }
        }
        Due.is("the row is empty", rig.x.put(1), 1);
        Due.is("a message is no part of the row", rig.x.at(0, 0), 0);
    }

    private static void injectRefused() {
        Due.sentence("Promise 10", "False when a sort is not 0 .. 2");
        Rig rig = Rig.usual();
        rig.x.put(1);
        Due.refuses("sort from", 0, 0, 2, sort -> Due.bit(rig.x.inject(sort, 0, 1, 0)));
        Due.refuses("sort to", 0, 0, 2, sort -> Due.bit(rig.x.inject(0, 0, sort, 0)));
        Due.is("nothing came", rig.x.count(2), 0);
        Due.is("the row stays", rig.x.put(2), 2);
        Due.sentence("Promise 10", "the row is empty");
        Rig empty = Rig.usual();
        Due.is("at first", empty.x.inject(0, 0, 1, 0), false);
        Due.is("nothing came", empty.x.count(2), 0);
        empty.x.put(1);
        Due.is("a row of one byte", empty.x.inject(0, 0, 1, 0), true);
        Due.is("empty then", empty.x.inject(0, 0, 1, 0), false);
        Due.is("one came", empty.x.count(2), 1);
    }

    private static void injectOfNobody() {
        Due.sentence("Promise 10", "there is no such card or terminal (the host has the number 0)");
        Rig rig = Rig.usual();
        rig.x.card(0, 0, 0, 0);
        rig.x.put(1);
        Due.refuses("from a card", 0, 0, 1, from -> Due.bit(rig.x.inject(0, from, 2, 0)));
        Due.refuses("from a terminal", 0, 0, 0, from -> Due.bit(rig.x.inject(1, from, 2, 0)));
        Due.refuses("from the host", 0, 0, 0, from -> Due.bit(rig.x.inject(2, from, 2, 0)));
        Due.refuses("to a card", 0, 0, 1, to -> Due.bit(rig.x.inject(2, 0, 0, to)));
        Due.refuses("to a terminal", 0, 0, 0, to -> Due.bit(rig.x.inject(2, 0, 1, to)));
        Due.refuses("to the host", 0, 0, 0, to -> Due.bit(rig.x.inject(2, 0, 2, to)));
        Due.is("nothing came", rig.x.count(2), 0);
        Due.is("the row stays", rig.x.put(2), 2);
        Due.is("the host to the host", rig.x.inject(2, 0, 2, 0), true);
    }

    private static void injectAtSixty() {
        Due.sentence("Promise 10", "or 60 wait");
        Rig rig = Rig.usual();
        rig.x.purchase(0, 0, 10, 0);
        rig.fillTo(59);
        rig.x.put(1);
        Due.is("the sixtieth", rig.x.inject(0, 0, 1, 0), true);
        rig.put(2, 3);
        Due.is("one more", rig.x.inject(0, 0, 1, 0), false);
        Due.is("sixty wait", rig.x.count(2), 60);
        Due.is("the sixtieth stays", rig.x.at(59, 0), 1);
        Due.is("the row stays", rig.x.put(4), 3);
        rig.x.drop(0);
        Due.is("a place is free", rig.x.inject(0, 0, 1, 0), true);
        Due.is("the whole row", rig.x.message(59, 4), 3);
    }
}
