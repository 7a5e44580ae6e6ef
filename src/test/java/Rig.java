import java.util.Arrays;

/** An object under test, with what tests do at its wires. */
final class Rig {
    static final int BEGIN = 1;
    static final int CARD = 2;
    static final int PIN = 3;
    static final int PINNED = 4;
    static final int ASK = 5;
    static final int ANSWER = 6;
    static final int REQUEST = 7;
    static final int WORD = 8;
    static final int END = 9;
    static final int LAST = 10;
    static final int CLEAR = 11;

    static final int F_CARD = 1;
    static final int F_COUNTER = 2;
    static final int F_AMOUNT = 3;
    static final int F_UN = 4;
    static final int F_TERMINAL = 5;
    static final int F_WAY = 6;
    static final int F_ANSWER = 7;
    static final int F_SEAL = 8;
    static final int F_PIN = 9;
    static final int F_WORD = 10;
    static final int F_MAC = 11;

    static final int[] LENGTH = {0, 1, 2, 5, 4, 1, 1, 1, 4, 2, 1, 4};

    final CardPayments x = new CardPayments();

    /** One card (PIN 1234, single 100, most 1, 500 cents) and one terminal (floor 50, PIN from 80). */
    static Rig usual() {
        Rig rig = new Rig();
        rig.x.card(1234, 100, 1, 500);
        rig.x.terminal(50, 80);
        return rig;
    }

    /** A usual rig on whose wires just one message waits, of this kind, which would be taken. */
    static Rig with(int kind) {
        Rig rig = usual();
        if (kind == CLEAR) {
            rig.x.purchase(0, 0, 30, 0);
            rig.deliver(4);
            rig.x.clear(0);
        } else {
            rig.x.purchase(0, 0, 90, 1234);
            rig.deliver(kind - 1);
        }
        Due.is("rig with kind " + kind, rig.x.at(0, 0), kind);
        Due.is("rig with one message", rig.x.count(2), 1);
        return rig;
    }

    /** Delivers the oldest message so many times. */
    void deliver(int times) {
        for (int i = 0; i < times; i++) {
            x.deliver(0);
        }
    }

    void deliverAll() {
        for (int i = 0; i < 100000 && x.count(2) > 0; i++) {
            x.deliver(0);
        }
    }

    /** Where the bytes of a field of message k begin; -1 when it has none such. */
    int place(int k, int tag) {
        int size = x.message(k, 4);
        for (int i = 1; i + 1 < size; i += 2 + x.at(k, i + 1)) {
            if (x.at(k, i) == tag) {
                return i + 2;
            }
        }
        return -1;
    }

    long field(int k, int tag) {
        int place = place(k, tag);
        if (place < 0) {
            return -1;
        }
        long value = 0;
        for (int i = 0; i < LENGTH[tag]; i++) {
            value = value * 256 + x.at(k, place + i);
        }
        return value;
    }

    void change(int k, int tag, long value) {
        int place = place(k, tag);
        for (int i = 0; i < LENGTH[tag]; i++) {
            x.alter(k, place + i, (int) (value >> 8 * (LENGTH[tag] - 1 - i) & 255));
        }
    }

    /** The bytes of message k. */
    int[] bytes(int k) {
        int[] bytes = new int[Math.max(x.message(k, 4), 0)];
        for (int i = 0; i < bytes.length; i++) {
            bytes[i] = x.at(k, i);
        }
        return bytes;
    }

    /** The bytes of a message with a kind and pairs of tag and value. */
    static int[] form(int kind, long... tagsAndValues) {
        int size = 1;
        for (int p = 0; p < tagsAndValues.length; p += 2) {
            size += 2 + LENGTH[(int) tagsAndValues[p]];
        }
        int[] bytes = new int[size];
        bytes[0] = kind;
        int next = 1;
        for (int p = 0; p < tagsAndValues.length; p += 2) {
            int length = LENGTH[(int) tagsAndValues[p]];
            bytes[next++] = (int) tagsAndValues[p];
            bytes[next++] = length;
            for (int i = length - 1; i >= 0; i--) {
                bytes[next++] = (int) (tagsAndValues[p + 1] >> 8 * i & 255);
            }
        }
        return bytes;
    }

    void put(int... bytes) {
        for (int b : bytes) {
            x.put(b);
        }
    }

    /** The stranger's message comes at once: what deliver answers. */
    int feed(int fromSort, int from, int toSort, int to, int... bytes) {
        put(bytes);
        Due.is("the stranger's message is on the wires", x.inject(fromSort, from, toSort, to), true);
        return x.deliver(x.count(2) - 1);
    }

    /** The stranger sends to a card in the name of terminal 0. */
    int feedCard(int card, int kind, long... tagsAndValues) {
        return feed(1, 0, 0, card, form(kind, tagsAndValues));
    }

    /** The stranger sends to a terminal in the name of card 0. */
    int feedTerminal(int terminal, int kind, long... tagsAndValues) {
        return feed(0, 0, 1, terminal, form(kind, tagsAndValues));
    }

    int begin(int card, long un) {
        return feedCard(card, BEGIN, F_UN, un);
    }

    int pin(int card, int pin) {
        return feedCard(card, PIN, F_PIN, pin);
    }

    int ask(int card, long amount, long un, int terminal, int wanted) {
        return feedCard(card, ASK, F_AMOUNT, amount, F_UN, un, F_TERMINAL, terminal, F_ANSWER, wanted);
    }

    /** The field of the newest message. */
    long newest(int tag) {
        return field(x.count(2) - 1, tag);
    }

    int newestKind() {
        return x.at(x.count(2) - 1, 0);
    }

    int end(int card, long seal, int word) {
        return feedCard(card, END, F_SEAL, seal, F_WORD, word);
    }

    void dropAll() {
        for (int i = 0; i < 60 && x.drop(0); i++) {
        }
    }

    /** So many messages wait then. */
    void fillTo(int many) {
        for (int i = x.count(2); i < many; i++) {
            x.again(0);
        }
        Due.is("so many wait", x.count(2), many);
    }

    void goesFromTo(String name, int fromSort, int from, int toSort, int to) {
        int k = x.count(2) - 1;
        Due.is(name + ", sort from", x.message(k, 0), fromSort);
        Due.is(name + ", from", x.message(k, 1), from);
        Due.is(name + ", sort to", x.message(k, 2), toSort);
        Due.is(name + ", to", x.message(k, 3), to);
    }

    void cardIs(String name, int counter, int tries, int row, int stage) {
        Due.is(name + ", counter", x.told(0, 0), counter);
        Due.is(name + ", tries", x.told(0, 1), tries);
        Due.is(name + ", row", x.told(0, 2), row);
        Due.is(name + ", stage", x.told(0, 3), stage);
    }

    /** All that can be asked of the object, as a text. */
    String picture() {
        StringBuilder text = new StringBuilder();
        for (int what = 0; what <= 5; what++) {
            text.append(x.count(what)).append(' ');
        }
        for (int card = 0; card < x.count(0); card++) {
            text.append("card ").append(x.account(card)).append(' ');
            for (int what = 0; what <= 3; what++) {
                text.append(x.told(card, what)).append(' ');
            }
        }
        for (int terminal = 0; terminal < x.count(1); terminal++) {
            text.append("outcome ").append(x.outcome(terminal)).append(' ');
        }
        for (int k = 0; k < x.count(3); k++) {
            for (int what = 0; what <= 6; what++) {
                text.append("debit ").append(x.debit(k, what)).append(' ');
            }
        }
        for (int k = 0; k < x.count(2); k++) {
            for (int what = 0; what <= 3; what++) {
                text.append("message ").append(x.message(k, what)).append(' ');
            }
            text.append(Arrays.toString(bytes(k)));
        }
        return text.append(x.matched()).toString();
    }

    static long draw(long x) {
        return (x * 1103515245L + 12345L) % 2147483648L;
    }
}
