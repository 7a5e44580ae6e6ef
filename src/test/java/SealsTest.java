/** "Terms", the part SEALS, and the sentence on the order in which seals are made. */
public final class SealsTest {
    private static final String PART = "Terms, SEALS";

    public static void main(String[] args) {
        fromOneOn();
        oneForAllTime();
        keysOfTwoCards();
        keysOfTwoTerminals();
        notGoodBeforeItIsMade();
        notGoodIfNotTheirs();
        lookingMakesNone();
        inTheirOrder();
        lostToo();
        Due.end();
    }

    private static void fromOneOn() {
        Due.sentence(PART, "the next number, from 1 on, when they are sealed first");
        Rig rig = Rig.usual();
        Due.is("seals of a new object", rig.x.count(4), 0);
        for (int i = 1; i <= 20; i++) {
            rig.begin(0, 4294967295L);
            Due.is("seal " + i, rig.newest(Rig.F_SEAL), i);
            Due.is("seals made", rig.x.count(4), i);
        }
    }

    /** The host says 0 to what comes again: that row is sealed a second and a third time. */
    private static void oneForAllTime() {
        Due.sentence(PART, "have one seal for all time");
        Rig rig = Rig.with(Rig.REQUEST);
        rig.fillTo(4);
        int before = rig.x.count(4);
        for (int i = 0; i < 4; i++) {
            rig.deliver(1);
            Due.is("word " + i, rig.newest(Rig.F_WORD), i == 0 ? 1 : 0);
            Due.is("seal of word " + i, rig.newest(Rig.F_SEAL), before + (i == 0 ? 1 : 3));
            Due.is("mac of word " + i, rig.newest(Rig.F_MAC), before + (i == 0 ? 2 : 4));
        }
        Due.is("two words, each sealed twice", rig.x.count(4), before + 4);
    }

    /** The row of an ANSWER does not name the card: both cards answer the same with their first counter. */
    private static void keysOfTwoCards() {
        Due.sentence(PART, "A key (of a card, of a terminal, or of the host for a card)");
        Rig rig = Rig.usual();
        rig.x.card(1, 100, 1, 100);
        long un = rig.x.purchase(0, 0, 30, 0);
        rig.deliver(2);
        rig.begin(1, un);
        rig.ask(1, 30, un, 0, 2);
        Due.is("the other card's ANSWER", rig.newest(Rig.F_ANSWER), 2);
        Due.is("the other card's counter", rig.newest(Rig.F_COUNTER), 1);
        long theirs = rig.newest(Rig.F_SEAL);
        rig.x.drop(2);
        rig.x.drop(1);
        rig.deliver(1);
        Due.is("this card's ANSWER", rig.newest(Rig.F_ANSWER), 2);
        Due.is("this card's counter", rig.newest(Rig.F_COUNTER), 1);
        Due.is("the same row has another seal here", rig.newest(Rig.F_SEAL) != theirs, true);
        rig.change(0, Rig.F_SEAL, theirs);
        rig.deliver(1);
        Due.is("another card's seal is not good", rig.x.outcome(0), 3);
    }

    /** The row of a WORD's mac does not name the terminal; both are said 0 for counter 1 and 90 cents. */
    private static void keysOfTwoTerminals() {
        Due.sentence(PART, "A key (of a card, of a terminal, or of the host for a card)");
        Rig rig = Rig.with(Rig.REQUEST);
        rig.x.terminal(50, 80);
        rig.x.again(0);
        rig.deliver(2);
        rig.x.drop(0);
        Due.is("the first terminal's word", rig.newest(Rig.F_WORD), 0);
        long seal = rig.newest(Rig.F_SEAL);
        long mac = rig.newest(Rig.F_MAC);
        rig.dropAll();
        rig.x.purchase(1, 0, 90, 1234);
        rig.deliver(5);
        rig.change(0, Rig.F_COUNTER, 1);
        rig.deliver(2);
        Due.is("the second terminal's word", rig.newest(Rig.F_WORD), 0);
        Due.is("its counter", rig.newest(Rig.F_COUNTER), 1);
        Due.is("the host's seal for the card is the same", rig.newest(Rig.F_SEAL), seal);
        Due.is("the second terminal's seal is not", rig.newest(Rig.F_MAC) != mac, true);
        rig.change(0, Rig.F_MAC, mac);
        Due.is("another terminal's seal is not good", rig.x.deliver(0), 0);
    }

    private static void notGoodBeforeItIsMade() {
        Due.sentence(PART, "A seal is GOOD for a key and a row if these were sealed");
        for (int seal = 0; seal <= 2; seal++) {
            Rig rig = Rig.usual();
            rig.x.purchase(0, 0, 30, 0);
            rig.feedTerminal(0, Rig.CARD, Rig.F_CARD, 0, Rig.F_COUNTER, 1, Rig.F_SEAL, seal);
            Due.is("a CARD that was never sealed, with " + seal, rig.x.outcome(0), 3);
        }
        for (int mac = 0; mac <= 6; mac++) {
            Rig rig = Rig.with(Rig.REQUEST);
            Due.is("a WORD that was never sealed, with " + mac, rig.feedTerminal(0, Rig.WORD, Rig.F_CARD, 0,
                Rig.F_COUNTER, 1, Rig.F_SEAL, 1, Rig.F_WORD, 1, Rig.F_MAC, mac), 0);
        }
    }

    private static void notGoodIfNotTheirs() {
        Due.sentence(PART, "and it is theirs");
        long[] seals = {0, 1, 2, 3, 4, 257, 65538, 0x01000002L, 0x80000002L, 4294967295L};
        for (long seal : seals) {
            Rig rig = Rig.usual();
            rig.begin(0, 1);
            long un = rig.x.purchase(0, 0, 30, 0);
            rig.x.drop(0);
            rig.deliver(1);
            rig.begin(0, un);
            rig.dropAll();
            Due.is("three are sealed", rig.x.count(4), 3);
            rig.feedTerminal(0, Rig.CARD, Rig.F_CARD, 0, Rig.F_COUNTER, 2, Rig.F_SEAL, seal);
            Due.is("the second counter with seal " + seal, rig.x.outcome(0), seal == 2 ? 0 : 3);
        }
    }

    private static void lookingMakesNone() {
        Due.sentence(PART, "when they are sealed first");
        int[] kinds = {Rig.CARD, Rig.WORD, Rig.END, Rig.LAST, Rig.REQUEST, Rig.CLEAR};
        for (int kind : kinds) {
            Rig rig = Rig.with(kind);
            int before = rig.x.count(4);
            int tag = kind == Rig.REQUEST || kind == Rig.CLEAR || kind == Rig.WORD ? Rig.F_MAC : Rig.F_SEAL;
            rig.change(0, tag, before + 1);
            rig.deliver(1);
            // A card that refuses an END seals its LAST.
            Due.is("seals after a false kind " + kind, rig.x.count(4), before + (kind == Rig.END ? 1 : 0));
        }
    }

    private static void inTheirOrder() {
        Due.sentence("Terms, the last lines", "Seals are made in the order in which they stand here");
        Rig rig = Rig.usual();
        int[] due = {0, 1, 1, 1, 1, 2, 3, 5, 5, 6, 6};
        rig.x.purchase(0, 0, 90, 1234);
        for (int i = 0; i < due.length; i++) {
            Due.is("seals after message " + i, rig.x.count(4), due[i]);
            if (rig.x.at(0, 0) == Rig.WORD) {
                Due.is("the host's seal for the card is made first", rig.field(0, Rig.F_SEAL), 4);
                Due.is("the terminal's seal is made then", rig.field(0, Rig.F_MAC), 5);
            }
            rig.deliver(1);
        }
        Due.is("approved", rig.x.outcome(0), 1);
    }

    private static void lostToo() {
        Due.sentence("Terms, the last lines", "those of messages that are lost, too");
        Rig rig = TerminalTest.withBatch(3);
        int before = rig.x.count(4);
        rig.x.purchase(1, 0, 1, 0);
        rig.fillTo(59);
        Due.is("one CLEAR came", rig.x.clear(0), 1);
        Due.is("its mac", rig.newest(Rig.F_MAC), before + 1);
        Due.is("three are sealed", rig.x.count(4), before + 3);
        rig.x.drop(0);
        rig.deliver(1);
        Due.is("the next seal is behind those", rig.newest(Rig.F_SEAL), before + 4);
    }
}
