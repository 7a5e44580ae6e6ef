/** An object under test, with what tests do at its wires. */
final class Rig {
    static final int BEGIN = 1;
    static final int CARD = 2;
    static final int PIN = 3;
    static final int PINNED = 4;
    static final int ASK = 5;
    static final int ANSWER = 6;
    static final int REQUEST = 7;
    static final int WORD = 8;
    static final int END = 9;
    static final int LAST = 10;
    static final int CLEAR = 11;

    static final int F_CARD = 1;
    static final int F_COUNTER = 2;
    static final int F_AMOUNT = 3;
    static final int F_UN = 4;
    static final int F_TERMINAL = 5;
    static final int F_WAY = 6;
    static final int F_ANSWER = 7;
    static final int F_SEAL = 8;
    static final int F_PIN = 9;
    static final int F_WORD = 10;
    static final int F_MAC = 11;

    static final int[] LENGTH = {0, 1, 2, 5, 4, 1, 1, 1, 4, 2, 1, 4};

    final CardPayments x = new CardPayments();

    /** One card (PIN 1234, single 100, most 1, 500 cents) and one terminal (floor 50, PIN from 80). */
    static Rig usual() {
        Rig rig = new Rig();
        rig.x.card(1234, 100, 1, 500);
        rig.x.terminal(50, 80);
        return rig;
    }

    /** A usual rig on whose wires just one message waits, of this kind, which would be taken. */
    static Rig with(int kind) {
        Rig rig = usual();
        if (kind == CLEAR) {
            rig.x.purchase(0, 0, 30, 0);
            rig.deliver(4);
            rig.x.clear(0);
        } else {
            rig.x.purchase(0, 0, 90, 1234);
            rig.deliver(kind - 1);
        }
        Due.is("rig with kind " + kind, rig.x.at(0, 0), kind);
        Due.is("rig with one message", rig.x.count(2), 1);
        return rig;
    }

    /** Delivers the oldest message so many times. */
    void deliver(int times) {
        for (int i = 0; i < times; i++) {
            x.deliver(0);
        }
    }

    void deliverAll() {
        for (int i = 0; i < 100000 && x.count(2) > 0; i++) {
            x.deliver(0);
        }
    }

    /** Where the bytes of a field of message k begin; -1 when it has none such. */
    int place(int k, int tag) {
        int size = x.message(k, 4);
        for (int i = 1; i + 1 < size; i += 2 + x.at(k, i + 1)) {
            if (x.at(k, i) == tag) {
                return i + 2;
            }
        }
        return -1;
    }

    long field(int k, int tag) {
        int place = place(k, tag);
        if (place < 0) {
            return -1;
        }
        long value = 0;
        for (int i = 0; i < LENGTH[tag]; i++) {
            value = value * 256 + x.at(k, place + i);
        }
        return value;
    }

    void change(int k, int tag, long value) {
        int place = place(k, tag);
        for (int i = 0; i < LENGTH[tag]; i++) {
            x.alter(k, place + i, (int) (value >> 8 * (LENGTH[tag] - 1 - i) & 255));
        }
    }

    /** Puts a kind and pairs of tag and value onto the stranger's row. */
    void row(int kind, long... tagsAndValues) {
        x.put(kind);
        for (int p = 0; p < tagsAndValues.length; p += 2) {
            int tag = (int) tagsAndValues[p];
            x.put(tag);
            x.put(LENGTH[tag]);
            for (int i = LENGTH[tag] - 1; i >= 0; i--) {
                x.put((int) (tagsAndValues[p + 1] >> 8 * i & 255));
            }
        }
    }

    /** The stranger sends to a card in the name of terminal 0 and it comes at once: what deliver answers. */
    int feedCard(int card, int kind, long... tagsAndValues) {
        row(kind, tagsAndValues);
        x.inject(1, 0, 0, card);
        return x.deliver(x.count(2) - 1);
    }

    /** The stranger sends to a terminal in the name of card 0 and it comes at once: what deliver answers. */
    int feedTerminal(int terminal, int kind, long... tagsAndValues) {
        row(kind, tagsAndValues);
        x.inject(0, 0, 1, terminal);
        return x.deliver(x.count(2) - 1);
    }

    int begin(int card, long un) {
        return feedCard(card, BEGIN, F_UN, un);
    }

    int pin(int card, int pin) {
        return feedCard(card, PIN, F_PIN, pin);
    }

    int ask(int card, long amount, long un, int terminal, int wanted) {
        return feedCard(card, ASK, F_AMOUNT, amount, F_UN, un, F_TERMINAL, terminal, F_ANSWER, wanted);
    }

    /** The field of the newest message. */
    long newest(int tag) {
        return field(x.count(2) - 1, tag);
    }

    int newestKind() {
        return x.at(x.count(2) - 1, 0);
    }

    void dropAll() {
        for (int i = 0; i < 60; i++) {
            x.drop(0);
        }
    }

    static long draw(long x) {
        return (x * 1103515245L + 12345L) % 2147483648L;
    }
}
