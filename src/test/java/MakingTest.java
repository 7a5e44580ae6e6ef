/** Promises 1, 2, 3 and 14: a new object, cards, terminals, how many there are. */
public final class MakingTest {
    public static void main(String[] args) {
        newObject();
        cards();
        cardsRefused();
        terminals();
        terminalsRefused();
        counts();
        Due.end();
    }

    private static void newObject() {
        CardPayments x = new CardPayments();
        Due.is("NONE", CardPayments.NONE, -1);
        for (int what = 0; what <= 5; what++) {
            Due.is("P1 count " + what, x.count(what), 0);
        }
        Due.is("P1 matched", x.matched(), true);
        Due.is("P1 deliver", x.deliver(0), -1);
        Due.is("P1 alter", x.alter(0, 0, 0), false);
        Due.is("P1 drop", x.drop(0), false);
        Due.is("P1 again", x.again(0), false);
        Due.is("P1 inject", x.inject(2, 0, 2, 0), false);
        Due.is("P1 power", x.power(0, 0), false);
        Due.is("P1 tick", x.tick(100), 0);
        Due.is("P1 clear", x.clear(0), -1);
        Due.is("P1 outcome", x.outcome(0), -1);
        Due.is("P1 told", x.told(0, 0), -1);
        Due.is("P1 account", x.account(0), 0);
        Due.is("P1 debit", x.debit(0, 0), -1);
        Due.is("P1 message", x.message(0, 0), -1);
        Due.is("P1 at", x.at(0, 0), -1);
        Due.is("P1 purchase", x.purchase(0, 0, 1, 0), -1);
        CardPayments other = new CardPayments();
        other.card(1, 1, 1, 1);
        Due.is("P1 objects are apart", x.count(0), 0);
    }

    private static void cards() {
        CardPayments x = new CardPayments();
        for (int i = 0; i < 16; i++) {
            Due.is("P2 card " + i, x.card(i, i, i % 10, 1000 + i), i);
        }
        Due.is("P2 the seventeenth", x.card(0, 0, 0, 0), -1);
        Due.is("P2 sixteen", x.count(0), 16);
        for (int i = 0; i < 16; i++) {
            Due.is("P2 counter", x.told(i, 0), 0);
            Due.is("P2 tries", x.told(i, 1), 3);
            Due.is("P2 row", x.told(i, 2), 0);
            Due.is("P2 stage", x.told(i, 3), 0);
            Due.is("P2 account", x.account(i), 1000 + i);
        }
    }

    private static void cardsRefused() {
        CardPayments x = new CardPayments();
        Due.is("P2 pin below", x.card(-1, 0, 0, 0), -1);
        Due.is("P2 pin above", x.card(10000, 0, 0, 0), -1);
        Due.is("P2 single below", x.card(0, -1, 0, 0), -1);
        Due.is("P2 single above", x.card(0, 1000000001L, 0, 0), -1);
        Due.is("P2 most below", x.card(0, 0, -1, 0), -1);
        Due.is("P2 most above", x.card(0, 0, 10, 0), -1);
        Due.is("P2 cents below", x.card(0, 0, 0, -1), -1);
        Due.is("P2 cents above", x.card(0, 0, 0, 1000000000001L), -1);
        Due.is("P2 extremes", x.card(Integer.MIN_VALUE, Long.MIN_VALUE, Integer.MAX_VALUE, Long.MAX_VALUE), -1);
        Due.is("P2 single like 0 in an int", x.card(0, 1L << 32, 0, 0), -1);
        Due.is("P2 none was made", x.count(0), 0);
        Due.is("P2 least", x.card(0, 0, 0, 0), 0);
        Due.is("P2 most of all", x.card(9999, 1000000000L, 9, 1000000000000L), 1);
        Due.is("P2 account of most", x.account(1), 1000000000000L);
    }

    private static void terminals() {
        CardPayments x = new CardPayments();
        for (int i = 0; i < 8; i++) {
            Due.is("P3 terminal " + i, x.terminal(i, i), i);
            Due.is("P3 outcome", x.outcome(i), 0);
        }
        Due.is("P3 the ninth", x.terminal(0, 0), -1);
        Due.is("P3 eight", x.count(1), 8);
    }

    private static void terminalsRefused() {
        CardPayments x = new CardPayments();
        Due.is("P3 floor below", x.terminal(-1, 0), -1);
        Due.is("P3 floor above", x.terminal(1000000001L, 0), -1);
        Due.is("P3 pinFrom below", x.terminal(0, -1), -1);
        Due.is("P3 pinFrom above", x.terminal(0, 1000000001L), -1);
        Due.is("P3 extremes", x.terminal(Long.MIN_VALUE, Long.MAX_VALUE), -1);
        Due.is("P3 floor like 0 in an int", x.terminal(1L << 32, 0), -1);
        Due.is("P3 none was made", x.count(1), 0);
        Due.is("P3 least", x.terminal(0, 0), 0);
        Due.is("P3 most", x.terminal(1000000000L, 1000000000L), 1);
    }

    private static void counts() {
        Rig rig = Rig.usual();
        rig.x.card(1, 1, 1, 1);
        rig.x.purchase(0, 0, 90, 1234);
        rig.x.purchase(0, 0, 90, 1234);
        Due.is("P14 cards", rig.x.count(0), 2);
        Due.is("P14 terminals", rig.x.count(1), 1);
        Due.is("P14 messages", rig.x.count(2), 2);
        Due.is("P14 debits before", rig.x.count(3), 0);
        Due.is("P14 seals before", rig.x.count(4), 0);
        Due.is("P14 purchases", rig.x.count(5), 2);
        rig.x.drop(0);
        rig.deliver(10);
        Due.is("P14 messages are gone", rig.x.count(2), 0);
        Due.is("P14 debits", rig.x.count(3), 1);
        Due.is("P14 seals", rig.x.count(4), 6);
        Due.is("P14 below", rig.x.count(-1), -1);
        Due.is("P14 above", rig.x.count(6), -1);
        Due.is("P14 extremes", rig.x.count(Integer.MAX_VALUE), -1);
        Due.is("P14 extremes", rig.x.count(Integer.MIN_VALUE), -1);
    }
}
