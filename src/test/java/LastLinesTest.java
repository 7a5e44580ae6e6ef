/** "Terms", its last lines: what is cut off, what was taken, keys of cards that there are not. */
public final class LastLinesTest {
    private static final String PART = "Terms, the last lines";

    public static void main(String[] args) {
        highestNumbersGoWhole();
        highestNumbersComeWhole();
        cutOff();
        takenWithoutPower();
        keysOfNoCard();
        Due.end();
    }

    private static void highestNumbersGoWhole() {
        Due.sentence(PART, "Numbers in fields are cut off at their length");
        Rig rig = new Rig();
        for (int i = 0; i < 16; i++) {
            rig.x.card(9999, 1000000000L, 9, 1000000000000L);
        }
        for (int i = 0; i < 8; i++) {
            rig.x.terminal(0, 0);
        }
        long un = rig.x.purchase(7, 15, 1000000000L, 9999);
        rig.deliver(1);
        Due.is("card", rig.newest(Rig.F_CARD), 15);
        rig.deliver(1);
        Due.is("pin", rig.newest(Rig.F_PIN), 9999);
        rig.deliver(2);
        Due.is("amount", rig.newest(Rig.F_AMOUNT), 1000000000L);
        Due.is("un", rig.newest(Rig.F_UN), un);
        Due.is("terminal", rig.newest(Rig.F_TERMINAL), 7);
        rig.deliver(6);
        Due.is("approved", rig.x.outcome(7), 1);
        Due.is("account", rig.x.account(15), 999000000000L);
    }

    /** Each number as high as its field can be; the card seals it as it came. */
    private static void highestNumbersComeWhole() {
        Due.sentence(PART, "Numbers in fields are cut off at their length");
        Rig rig = Rig.usual();
        long highest = (1L << 32) - 1;
        Due.is("BEGIN", rig.begin(0, highest), 1);
        Due.is("PIN", rig.pin(0, 65535), 1);
        Due.is("it is not its PIN", rig.newest(Rig.F_WAY), 0);
        Due.is("ASK", rig.ask(0, (1L << 40) - 1, highest, 255, 255), 1);
        Due.is("ANSWER", rig.newest(Rig.F_ANSWER), 1);
        Due.is("END", rig.end(0, highest, 255), 1);
        Due.is("LAST", rig.newest(Rig.F_ANSWER), 0);
        Due.is("three seals", rig.x.count(4), 3);
        Due.is("WORD", rig.feedTerminal(0, Rig.WORD, Rig.F_CARD, 255, Rig.F_COUNTER, 65535, Rig.F_SEAL, highest,
            Rig.F_WORD, 255, Rig.F_MAC, highest), 0);
        Due.is("REQUEST", rig.feed(1, 0, 2, 0, Rig.form(Rig.REQUEST, Rig.F_CARD, 255, Rig.F_COUNTER, 65535,
            Rig.F_AMOUNT, (1L << 40) - 1, Rig.F_UN, highest, Rig.F_TERMINAL, 255, Rig.F_WAY, 255, Rig.F_SEAL, highest,
            Rig.F_MAC, highest)), 0);
    }

    /** No call brings a number that is longer than its field, so some are set behind the object's back. */
    private static void cutOff() {
        Due.sentence(PART, "Numbers in fields are cut off at their length");
        Rig pin = Rig.with(Rig.CARD);
        if (!Inside.isKnown(pin.x)) {
            return;
        }
        Inside.set(Inside.terminal(pin.x, 0), "typedPin", 65536 + 1234);
        pin.deliver(1);
        Due.is("PIN has its length", pin.x.message(0, 4), 5);
        Due.is("pin", pin.newest(Rig.F_PIN), 1234);
        Rig ask = Rig.with(Rig.PINNED);
        Object payment = Inside.part(Inside.terminal(ask.x, 0), "payment");
        Inside.set(payment, "amount", (7L << 40) + 258);
        Inside.set(payment, "un", (5L << 32) + 259);
        ask.deliver(1);
        Due.is("ASK has its length", ask.x.message(0, 4), 20);
        Due.is("amount", ask.newest(Rig.F_AMOUNT), 258);
        Due.is("un", ask.newest(Rig.F_UN), 259);
    }

    private static void takenWithoutPower() {
        Due.sentence(PART, "A message at which a card loses power was taken");
        int[] kinds = {Rig.BEGIN, Rig.PIN, Rig.END};
        for (int kind : kinds) {
            Rig rig = Rig.with(kind);
            rig.x.power(0, 0);
            Due.is("kind " + kind, rig.x.deliver(0), 1);
            Due.is("it is gone", rig.x.count(2), 0);
        }
        Rig ask = Rig.usual();
        ask.x.purchase(0, 0, 30, 0);
        ask.deliver(2);
        ask.x.power(0, 0);
        Due.is("ASK", ask.x.deliver(0), 1);
        Due.is("it is gone", ask.x.count(2), 0);
    }

    /** A terminal keeps only cards that there are, so the number is changed behind its back. */
    private static void keysOfNoCard() {
        Due.sentence(PART, "A key of a card that there is not is one like others");
        long[] seals = new long[3];
        int[] numbers = {200, 200, 201};
        Rig rig = Rig.with(Rig.ANSWER);
        if (!Inside.isKnown(rig.x)) {
            return;
        }
        for (int i = 0; i < 3; i++) {
            Inside.set(Inside.part(Inside.terminal(rig.x, 0), "payment"), "card", numbers[i]);
            rig.change(0, Rig.F_COUNTER, 1);
            rig.deliver(2);
            Due.is("WORD for a card that there is not", rig.newest(Rig.F_CARD), numbers[i]);
            seals[i] = rig.newest(Rig.F_SEAL);
            Due.is("it is taken", rig.x.deliver(0), 1);
            rig.dropAll();
            rig.x.purchase(0, 0, 90, 1234);
            rig.deliver(5);
        }
        Due.is("a new seal", seals[0], 4);
        Due.is("the same seal", seals[1], seals[0]);
        Due.is("another seal", seals[2] != seals[0], true);
    }
}
