import java.util.ArrayList;
import java.util.Arrays;

/** Payments by chip cards over wires that anybody may cut, change and feed. */
public final class CardPayments {
    public static final int NONE = -1;

    private static final int MOST_CARDS = 16;
    private static final int MOST_TERMINALS = 8;
    private static final int MOST_WAITING = 60;
    private static final int MOST_BYTES = 64;
    private static final int MOST_TICKS = 100;
    private static final int MOST_PIN = 9999;
    private static final int MOST_ROW_OF_CARD = 9;
    private static final int MOST_POWER = 9;
    private static final long MOST_AMOUNT = 1000000000L;
    private static final long MOST_CENTS = 1000000000000L;
    private static final int FULL_TRIES = 3;
    private static final int COUNTER_END = 60000;
    private static final int PATIENCE = 20;

    private static final int SORT_CARD = 0;
    private static final int SORT_TERMINAL = 1;
    private static final int SORT_HOST = 2;

    private static final int OUTCOME_NONE = 0;
    private static final int OUTCOME_BY_HOST = 1;
    private static final int OUTCOME_BY_CARD = 2;
    private static final int OUTCOME_REFUSED = 3;
    private static final int OUTCOME_GIVEN_UP = 4;

    private static final int KIND_NONE = 0;
    private static final int KIND_BEGIN = 1;
    private static final int KIND_CARD = 2;
    private static final int KIND_PIN = 3;
    private static final int KIND_PINNED = 4;
    private static final int KIND_ASK = 5;
    private static final int KIND_ANSWER = 6;
    private static final int KIND_REQUEST = 7;
    private static final int KIND_WORD = 8;
    private static final int KIND_END = 9;
    private static final int KIND_LAST = 10;
    private static final int KIND_CLEAR = 11;

    private static final int TAG_CARD = 1;
    private static final int TAG_COUNTER = 2;
    private static final int TAG_AMOUNT = 3;
    private static final int TAG_UN = 4;
    private static final int TAG_TERMINAL = 5;
    private static final int TAG_WAY = 6;
    private static final int TAG_ANSWER = 7;
    private static final int TAG_SEAL = 8;
    private static final int TAG_PIN = 9;
    private static final int TAG_WORD = 10;
    private static final int TAG_MAC = 11;
    private static final int TAGS = 12;

    private static final int[] LENGTHS = {0, 1, 2, 5, 4, 1, 1, 1, 4, 2, 1, 4};

    // Each kind's fields as bits by tag: a set is enough, as every kind has its fields in rising order of tags.
    private static final int[] FIELDS = {
        0,
        1 << TAG_UN,
        1 << TAG_CARD | 1 << TAG_COUNTER | 1 << TAG_SEAL,
        1 << TAG_PIN,
        1 << TAG_WAY,
        1 << TAG_AMOUNT | 1 << TAG_UN | 1 << TAG_TERMINAL | 1 << TAG_ANSWER,
        1 << TAG_COUNTER | 1 << TAG_WAY | 1 << TAG_ANSWER | 1 << TAG_SEAL,
        1 << TAG_CARD | 1 << TAG_COUNTER | 1 << TAG_AMOUNT | 1 << TAG_UN
            | 1 << TAG_TERMINAL | 1 << TAG_WAY | 1 << TAG_SEAL | 1 << TAG_MAC,
        1 << TAG_CARD | 1 << TAG_COUNTER | 1 << TAG_SEAL | 1 << TAG_WORD | 1 << TAG_MAC,
        1 << TAG_SEAL | 1 << TAG_WORD,
        1 << TAG_ANSWER | 1 << TAG_SEAL,
        1 << TAG_CARD | 1 << TAG_COUNTER | 1 << TAG_AMOUNT | 1 << TAG_UN
            | 1 << TAG_TERMINAL | 1 << TAG_WAY | 1 << TAG_SEAL | 1 << TAG_MAC,
    };

    private final World world;
    private final Host host;
    private final int[] strangersRow;
    private int strangersBytes;

    public CardPayments() {
        world = new World();
        host = new Host(world);
        strangersRow = new int[MOST_BYTES];
        strangersBytes = 0;
    }

    public int card(int pin, long single, int most, long cents) {
        int number = world.cards.size();
        if (number >= MOST_CARDS || !isWithin(pin, 0, MOST_PIN) || !isWithin(single, 0, MOST_AMOUNT)) {
            return NONE;
        }
        if (!isWithin(most, 0, MOST_ROW_OF_CARD) || !isWithin(cents, 0, MOST_CENTS)) {
            return NONE;
        }
        world.cards.add(new Card(world, number, pin, single, most));
        host.accounts.add(new Account(cents));
        return number;
    }

    public int terminal(long floor, long pinFrom) {
        int number = world.terminals.size();
        if (number >= MOST_TERMINALS || !isWithin(floor, 0, MOST_AMOUNT) || !isWithin(pinFrom, 0, MOST_AMOUNT)) {
            return NONE;
        }
        world.terminals.add(new Terminal(world, number, floor, pinFrom));
        return number;
    }

    public int purchase(int terminal, int card, long amount, int pin) {
        if (!world.isTerminal(terminal) || !world.isCard(card)) {
            return NONE;
        }
        if (!isWithin(amount, 1, MOST_AMOUNT) || !isWithin(pin, 0, MOST_PIN)) {
            return NONE;
        }
        return world.terminals.get(terminal).start(card, amount, pin);
    }

    public int deliver(int k) {
        Message message = world.wires.takeOff(k);
        if (message == null) {
            return NONE;
        }
        Content came = world.came;
        if (!message.read(came)) {
            return 0;
        }
        boolean taken;
        if (message.toSort == SORT_HOST) {
            taken = host.takes(came);
        } else if (message.toSort == SORT_TERMINAL) {
            taken = world.isTerminal(message.to) && world.terminals.get(message.to).takes(came);
        } else {
            taken = world.isCard(message.to) && world.cards.get(message.to).takes(came);
        }
        return taken ? 1 : 0;
    }

    public boolean alter(int k, int i, int v) {
        Message message = world.wires.get(k);
        if (message == null || !message.has(i) || !isWithin(v, 0, 255)) {
            return false;
        }
        message.bytes[i] = v;
        return true;
    }

    public boolean drop(int k) {
        return world.wires.takeOff(k) != null;
    }

    public boolean again(int k) {
        Message message = world.wires.get(k);
        if (message == null) {
            return false;
        }
        Message copy = world.wires.add(message.fromSort, message.from, message.toSort, message.to);
        if (copy == null) {
            return false;
        }
        copy.copyBytes(message.bytes, message.size);
        return true;
    }

    public int put(int v) {
        if (strangersBytes >= MOST_BYTES || !isWithin(v, 0, 255)) {
            return NONE;
        }
        strangersRow[strangersBytes] = v;
        strangersBytes++;
        return strangersBytes;
    }

    public boolean inject(int fromSort, int from, int toSort, int to) {
        if (strangersBytes == 0 || !world.isSomebody(fromSort, from) || !world.isSomebody(toSort, to)) {
            return false;
        }
        Message message = world.wires.add(fromSort, from, toSort, to);
        if (message == null) {
            return false;
        }
        message.copyBytes(strangersRow, strangersBytes);
        strangersBytes = 0;
        return true;
    }

    public boolean power(int card, int n) {
        if (!world.isCard(card) || !isWithin(n, 0, MOST_POWER)) {
            return false;
        }
        world.cards.get(card).writesToGo = n;
        return true;
    }

    public int tick(int n) {
        if (!isWithin(n, 1, MOST_TICKS)) {
            return NONE;
        }
        int givenUp = 0;
        for (int i = 0; i < world.terminals.size(); i++) {
            if (world.terminals.get(i).givesUpAfter(n)) {
                givenUp++;
            }
        }
        return givenUp;
    }

    public int clear(int terminal) {
        return world.isTerminal(terminal) ? world.terminals.get(terminal).sendBatch() : NONE;
    }

    public int count(int what) {
        switch (what) {
            case 0:
                return world.cards.size();
            case 1:
                return world.terminals.size();
            case 2:
                return world.wires.size;
            case 3:
                return host.debits.size();
            case 4:
                return world.seals.made.size();
            case 5:
                return world.purchases.size();
            default:
                return NONE;
        }
    }

    public int outcome(int terminal) {
        return world.isTerminal(terminal) ? world.terminals.get(terminal).outcome : NONE;
    }

    public int told(int card, int what) {
        if (!world.isCard(card)) {
            return NONE;
        }
        Card asked = world.cards.get(card);
        switch (what) {
            case 0:
                return asked.counter;
            case 1:
                return asked.tries;
            case 2:
                return asked.row;
            case 3:
                return asked.stage;
            default:
                return NONE;
        }
    }

    public long account(int card) {
        return card >= 0 && card < host.accounts.size() ? host.accounts.get(card).cents : 0;
    }

    public long debit(int k, int what) {
        if (k < 0 || k >= host.debits.size()) {
            return NONE;
        }
        Payment debit = host.debits.get(k);
        switch (what) {
            case 0:
                return debit.card;
            case 1:
                return debit.counter;
            case 2:
                return debit.amount;
            case 3:
                return debit.un;
            case 4:
                return debit.terminal;
            case 5:
                return debit.way;
            case 6:
                return debit.answer;
            default:
                return NONE;
        }
    }

    public int message(int k, int what) {
        Message message = world.wires.get(k);
        if (message == null) {
            return NONE;
        }
        switch (what) {
            case 0:
                return message.fromSort;
            case 1:
                return message.from;
            case 2:
                return message.toSort;
            case 3:
                return message.to;
            case 4:
                return message.size;
            default:
                return NONE;
        }
    }

    public int at(int k, int i) {
        Message message = world.wires.get(k);
        return message != null && message.has(i) ? message.bytes[i] : NONE;
    }

    public boolean matched() {
        for (int i = 0; i < host.debits.size(); i++) {
            Payment debit = host.debits.get(i);
            if (world.purchasesLike(debit) != 1 || !world.wasAnswered(debit) || host.debitsOfCounter(debit) != 1) {
                return false;
            }
        }
        return true;
    }

    private static boolean isWithin(long value, long least, long most) {
        return value >= least && value <= most;
    }

    /** The numbers of one payment, as a card answers, a terminal asks and the host debits them. */
    private static final class Payment {
        int card;
        int counter;
        long amount;
        long un;
        int terminal;
        int way;
        int answer;
        long seal;
    }

    /** What the host keeps for a card. */
    private static final class Account {
        long cents;
        int last;

        Account(long cents) {
            this.cents = cents;
        }
    }

    /** A message that was read or is to be sent: its kind and, by tag, its fields. */
    private static final class Content {
        int kind;
        int fromSort;
        int from;
        final long[] field = new long[TAGS];

        int intField(int tag) {
            return (int) field[tag];
        }
    }

    /** A row of bytes on the wires. */
    private static final class Message {
        int fromSort;
        int from;
        int toSort;
        int to;
        int size;
        final int[] bytes = new int[MOST_BYTES];

        boolean has(int i) {
            return i >= 0 && i < size;
        }

        void copyBytes(int[] source, int length) {
            size = Math.min(length, MOST_BYTES);
            System.arraycopy(source, 0, bytes, 0, size);
        }

        void write(Content goes) {
            bytes[0] = goes.kind;
            size = 1;
            for (int tag = 1; tag < TAGS; tag++) {
                if (hasField(goes.kind, tag)) {
                    writeField(tag, goes.field[tag]);
                }
            }
        }

        private void writeField(int tag, long value) {
            int length = LENGTHS[tag];
            if (size + 2 + length > MOST_BYTES) {
                return;
            }
            bytes[size] = tag;
            bytes[size + 1] = length;
            for (int i = 0; i < length; i++) {
                bytes[size + 2 + i] = (int) (value >> 8 * (length - 1 - i)) & 255;
            }
            size += 2 + length;
        }

        /** False when these bytes are no message of a kind that there is. */
        boolean read(Content came) {
            if (size == 0 || bytes[0] < KIND_BEGIN || bytes[0] > KIND_CLEAR) {
                return false;
            }
            came.kind = bytes[0];
            came.fromSort = fromSort;
            came.from = from;
            int next = 1;
            for (int tag = 1; tag < TAGS; tag++) {
                if (hasField(came.kind, tag)) {
                    if (!isFieldAt(next, tag)) {
                        return false;
                    }
                    came.field[tag] = numberAt(next + 2, LENGTHS[tag]);
                    next += 2 + LENGTHS[tag];
                }
            }
            return next == size;
        }

        private boolean isFieldAt(int next, int tag) {
            return next + 2 + LENGTHS[tag] <= size && bytes[next] == tag && bytes[next + 1] == LENGTHS[tag];
        }

        private long numberAt(int next, int length) {
            long number = 0;
            for (int i = 0; i < length; i++) {
                number = number * 256 + bytes[next + i];
            }
            return number;
        }

        private static boolean hasField(int kind, int tag) {
            return (FIELDS[kind] >> tag & 1) == 1;
        }
    }

    /** The messages that wait, in the order in which they came. */
    private static final class Wires {
        final Message[] waiting = new Message[MOST_WAITING];
        int size;

        Message get(int k) {
            return k >= 0 && k < size ? waiting[k] : null;
        }

        /** A new message behind all, its bytes yet to be told; null when too many wait. */
        Message add(int fromSort, int from, int toSort, int to) {
            if (size >= MOST_WAITING) {
                return null;
            }
            // Messages that are gone lie behind those that wait and are used again, so that few are made.
            if (waiting[size] == null) {
                waiting[size] = new Message();
            }
            Message message = waiting[size];
            size++;
            message.fromSort = fromSort;
            message.from = from;
            message.toSort = toSort;
            message.to = to;
            return message;
        }

        /** Message k, which is gone then; null when there is none such. */
        Message takeOff(int k) {
            Message gone = get(k);
            if (gone == null) {
                return null;
            }
            for (int i = k; i + 1 < size; i++) {
                waiting[i] = waiting[i + 1];
            }
            size--;
            waiting[size] = gone;
            return gone;
        }
    }

    /** A key and a row that were sealed. */
    private static final class Seal {
        final int sort;
        final int number;
        final long[] row;

        Seal(int sort, int number, long[] row) {
            this.sort = sort;
            this.number = number;
            this.row = row;
        }
    }

    /** All seals, and the key and the row that are to be sealed or looked at next. */
    private static final class Seals {
        private static final int MOST_ROW = 8;

        final ArrayList<Seal> made = new ArrayList<>();
        private final long[] row = new long[MOST_ROW];
        private int size;
        private int sort;
        private int number;

        Seals ofCard(int card, int counter, long un) {
            return key(SORT_CARD, card).with(KIND_CARD).with(card).with(counter).with(un);
        }

        Seals ofAnswer(Payment payment) {
            return key(SORT_CARD, payment.card).with(KIND_ANSWER).with(payment.answer).with(payment.amount)
                .with(payment.un).with(payment.terminal).with(payment.counter).with(payment.way);
        }

        Seals ofLast(Payment payment, int answer) {
            return key(SORT_CARD, payment.card).with(KIND_LAST).with(answer).with(payment.amount)
                .with(payment.un).with(payment.terminal).with(payment.counter);
        }

        /** The mac of a REQUEST or a CLEAR. */
        Seals ofTerminal(int kind, Payment payment) {
            return key(SORT_TERMINAL, payment.terminal).with(kind).with(payment.card).with(payment.counter)
                .with(payment.amount).with(payment.un).with(payment.terminal).with(payment.way).with(payment.seal);
        }

        Seals ofWordToCard(int card, int counter, int word) {
            return key(SORT_HOST, card).with(KIND_WORD).with(card).with(counter).with(word);
        }

        Seals ofWordToTerminal(Payment payment, int word) {
            return key(SORT_TERMINAL, payment.terminal).with(KIND_WORD).with(payment.card).with(payment.counter)
                .with(word).with(payment.amount);
        }

        long seal() {
            for (int i = 0; i < made.size(); i++) {
                if (isTheirs(made.get(i))) {
                    return i + 1;
                }
            }
            made.add(new Seal(sort, number, Arrays.copyOf(row, size)));
            return made.size();
        }

        boolean isGood(long seal) {
            return seal >= 1 && seal <= made.size() && isTheirs(made.get((int) seal - 1));
        }

        private Seals key(int keySort, int keyNumber) {
            sort = keySort;
            number = keyNumber;
            size = 0;
            return this;
        }

        private Seals with(long value) {
            if (size < MOST_ROW) {
                row[size] = value;
                size++;
            }
            return this;
        }

        private boolean isTheirs(Seal seal) {
            if (seal.sort != sort || seal.number != number || seal.row.length != size) {
                return false;
            }
            for (int i = 0; i < size; i++) {
                if (seal.row[i] != row[i]) {
                    return false;
                }
            }
            return true;
        }
    }

    /** What cards, terminals and the host share, and what was done by them. */
    private static final class World {
        final Wires wires = new Wires();
        final Seals seals = new Seals();
        final ArrayList<Card> cards = new ArrayList<>();
        final ArrayList<Terminal> terminals = new ArrayList<>();
        final ArrayList<Payment> purchases = new ArrayList<>();
        final ArrayList<Payment> answers = new ArrayList<>();
        final Content came = new Content();
        final Content goes = new Content();

        boolean isCard(int number) {
            return number >= 0 && number < cards.size();
        }

        boolean isTerminal(int number) {
            return number >= 0 && number < terminals.size();
        }

        boolean isSomebody(int sort, int number) {
            switch (sort) {
                case SORT_CARD:
                    return isCard(number);
                case SORT_TERMINAL:
                    return isTerminal(number);
                case SORT_HOST:
                    return number == 0;
                default:
                    return false;
            }
        }

        /** Sends what goes; false when it is lost. */
        boolean send(int kind, int fromSort, int from, int toSort, int to) {
            Message message = wires.add(fromSort, from, toSort, to);
            if (message == null) {
                return false;
            }
            goes.kind = kind;
            message.write(goes);
            return true;
        }

        int purchasesLike(Payment debit) {
            int found = 0;
            for (int i = 0; i < purchases.size(); i++) {
                Payment bought = purchases.get(i);
                if (bought.terminal == debit.terminal && bought.amount == debit.amount && bought.un == debit.un) {
                    found++;
                }
            }
            return found;
        }

        boolean wasAnswered(Payment debit) {
            for (int i = 0; i < answers.size(); i++) {
                Payment given = answers.get(i);
                if (given.card == debit.card && given.counter == debit.counter && given.amount == debit.amount
                    && given.un == debit.un && given.terminal == debit.terminal && given.way == debit.way
                    && given.answer == debit.answer) {
                    return true;
                }
            }
            return false;
        }
    }

    /** A card: what it writes stays when power is lost; its stage, way and what it was asked do not. */
    private static final class Card {
        private static final int STAGE_IDLE = 0;
        private static final int STAGE_BEGUN = 1;
        private static final int STAGE_ASKED = 2;

        private final World world;
        private final int number;
        private final int pin;
        private final long single;
        private final int most;
        int counter;
        int tries = FULL_TRIES;
        int row;
        int stage;
        int writesToGo = NONE;
        private int way;
        private Payment asked = new Payment();

        Card(World world, int number, int pin, long single, int most) {
            this.world = world;
            this.number = number;
            this.pin = pin;
            this.single = single;
            this.most = most;
        }

        boolean takes(Content came) {
            switch (came.kind) {
                case KIND_BEGIN:
                    return takesBegin(came);
                case KIND_PIN:
                    return takesPin(came);
                case KIND_ASK:
                    return takesAsk(came);
                case KIND_END:
                    return takesEnd(came);
                default:
                    return false;
            }
        }

        private boolean takesBegin(Content came) {
            if (counter >= COUNTER_END) {
                return false;
            }
            if (losesPower()) {
                return true;
            }
            counter++;
            stage = STAGE_BEGUN;
            way = 0;
            world.goes.field[TAG_CARD] = number;
            world.goes.field[TAG_COUNTER] = counter;
            world.goes.field[TAG_SEAL] = world.seals.ofCard(number, counter, came.field[TAG_UN]).seal();
            reply(came, KIND_CARD);
            return true;
        }

        private boolean takesPin(Content came) {
            if (stage != STAGE_BEGUN) {
                return false;
            }
            if (tries == 0) {
                replyPinned(came, 2, 2);
                return true;
            }
            if (losesPower()) {
                return true;
            }
            tries--;
            if (came.field[TAG_PIN] != pin) {
                replyPinned(came, 2, 0);
                return true;
            }
            if (losesPower()) {
                return true;
            }
            tries = FULL_TRIES;
            replyPinned(came, 1, 1);
            return true;
        }

        private void replyPinned(Content came, int newWay, int pinned) {
            way = newWay;
            world.goes.field[TAG_WAY] = pinned;
            reply(came, KIND_PINNED);
        }

        private boolean takesAsk(Content came) {
            if (stage != STAGE_BEGUN) {
                return false;
            }
            int answer = answerTo(came.intField(TAG_ANSWER), came.field[TAG_AMOUNT]);
            if (answer == 2) {
                if (losesPower()) {
                    return true;
                }
                row++;
            }
            keepAsked(came, answer);
            stage = answer == 1 ? STAGE_ASKED : STAGE_IDLE;
            world.goes.field[TAG_COUNTER] = counter;
            world.goes.field[TAG_WAY] = way;
            world.goes.field[TAG_ANSWER] = answer;
            world.goes.field[TAG_SEAL] = world.seals.ofAnswer(asked).seal();
            reply(came, KIND_ANSWER);
            return true;
        }

        private int answerTo(int wanted, long amount) {
            if (tries == 0 || wanted == 0) {
                return 0;
            }
            return wanted == 2 && amount <= single && row < most ? 2 : 1;
        }

        private void keepAsked(Content came, int answer) {
            asked = new Payment();
            asked.card = number;
            asked.counter = counter;
            asked.amount = came.field[TAG_AMOUNT];
            asked.un = came.field[TAG_UN];
            asked.terminal = came.intField(TAG_TERMINAL);
            asked.way = way;
            asked.answer = answer;
            world.answers.add(asked);
        }

        private boolean takesEnd(Content came) {
            if (stage != STAGE_ASKED) {
                return false;
            }
            int answer = isApproved(came) ? 2 : 0;
            if (answer == 2) {
                if (losesPower()) {
                    return true;
                }
                row = 0;
            }
            stage = STAGE_IDLE;
            world.goes.field[TAG_ANSWER] = answer;
            world.goes.field[TAG_SEAL] = world.seals.ofLast(asked, answer).seal();
            reply(came, KIND_LAST);
            return true;
        }

        private boolean isApproved(Content came) {
            return came.field[TAG_WORD] == 1
                && world.seals.ofWordToCard(number, counter, 1).isGood(came.field[TAG_SEAL]);
        }

        private void reply(Content came, int kind) {
            world.send(kind, SORT_CARD, number, came.fromSort, came.from);
        }

        /** Asked before each write: whether power is lost at it, so that it is not done. */
        private boolean losesPower() {
            if (writesToGo == NONE) {
                return false;
            }
            writesToGo--;
            if (writesToGo != NONE) {
                return false;
            }
            stage = STAGE_IDLE;
            way = 0;
            asked = new Payment();
            return true;
        }
    }

    /** A terminal, with the purchase that it is at. */
    private static final class Terminal {
        private final World world;
        private final int number;
        private final long floor;
        private final long pinFrom;
        private final ArrayList<Payment> batch = new ArrayList<>();
        int outcome = OUTCOME_NONE;
        private long draw;
        private int toldCard;
        private int typedPin;
        private Payment payment = new Payment();
        private int keptCounter;
        private int word;
        private int waitsFor = KIND_NONE;
        private int waited;

        Terminal(World world, int number, long floor, long pinFrom) {
            this.world = world;
            this.number = number;
            this.floor = floor;
            this.pinFrom = pinFrom;
            draw = 12345 + number;
        }

        int start(int card, long amount, int pin) {
            draw = (draw * 1103515245L + 12345L) % (1L << 31);
            toldCard = card;
            typedPin = pin;
            outcome = OUTCOME_NONE;
            payment = new Payment();
            payment.terminal = number;
            payment.amount = amount;
            payment.un = draw;
            world.purchases.add(payment);
            world.goes.field[TAG_UN] = draw;
            sendToCard(KIND_BEGIN, KIND_CARD);
            return (int) draw;
        }

        boolean takes(Content came) {
            if (came.kind != waitsFor) {
                return false;
            }
            switch (came.kind) {
                case KIND_CARD:
                    takeCard(came);
                    return true;
                case KIND_PINNED:
                    takePinned(came);
                    return true;
                case KIND_ANSWER:
                    takeAnswer(came);
                    return true;
                case KIND_WORD:
                    return takesWord(came);
                case KIND_LAST:
                    takeLast(came);
                    return true;
                default:
                    return false;
            }
        }

        private void takeCard(Content came) {
            int card = came.intField(TAG_CARD);
            int counter = came.intField(TAG_COUNTER);
            if (!world.isCard(card) || !world.seals.ofCard(card, counter, payment.un).isGood(came.field[TAG_SEAL])) {
                end(OUTCOME_REFUSED);
                return;
            }
            payment.card = card;
            keptCounter = counter;
            if (payment.amount >= pinFrom) {
                world.goes.field[TAG_PIN] = typedPin;
                sendToCard(KIND_PIN, KIND_PINNED);
            } else {
                ask(0);
            }
        }

        private void takePinned(Content came) {
            if (came.field[TAG_WAY] == 1) {
                ask(1);
            } else {
                end(OUTCOME_REFUSED);
            }
        }

        private void ask(int way) {
            payment.way = way;
            world.goes.field[TAG_AMOUNT] = payment.amount;
            world.goes.field[TAG_UN] = payment.un;
            world.goes.field[TAG_TERMINAL] = number;
            world.goes.field[TAG_ANSWER] = payment.amount <= floor ? 2 : 1;
            sendToCard(KIND_ASK, KIND_ANSWER);
        }

        private void takeAnswer(Content came) {
            payment.counter = came.intField(TAG_COUNTER);
            payment.answer = came.intField(TAG_ANSWER);
            payment.seal = came.field[TAG_SEAL];
            if (payment.answer == 1) {
                sendToHost(KIND_REQUEST, payment);
                waitFor(KIND_WORD);
            } else if (payment.answer == 2 && isGoodWithoutHost(came)) {
                batch.add(payment);
                end(OUTCOME_BY_CARD);
            } else {
                end(OUTCOME_REFUSED);
            }
        }

        private boolean isGoodWithoutHost(Content came) {
            return payment.counter == keptCounter && came.field[TAG_WAY] == payment.way
                && world.seals.ofAnswer(payment).isGood(payment.seal);
        }

        private boolean takesWord(Content came) {
            int said = came.intField(TAG_WORD);
            if (came.field[TAG_CARD] != payment.card || came.field[TAG_COUNTER] != payment.counter
                || !world.seals.ofWordToTerminal(payment, said).isGood(came.field[TAG_MAC])) {
                return false;
            }
            word = said;
            world.goes.field[TAG_WORD] = word;
            world.goes.field[TAG_SEAL] = came.field[TAG_SEAL];
            sendToCard(KIND_END, KIND_LAST);
            return true;
        }

        private void takeLast(Content came) {
            boolean approved = word == 1 && came.field[TAG_ANSWER] == 2
                && world.seals.ofLast(payment, 2).isGood(came.field[TAG_SEAL]);
            end(approved ? OUTCOME_BY_HOST : OUTCOME_REFUSED);
        }

        int sendBatch() {
            int came = 0;
            for (int i = 0; i < batch.size(); i++) {
                if (sendToHost(KIND_CLEAR, batch.get(i))) {
                    came++;
                }
            }
            batch.clear();
            return came;
        }

        /** Sends a REQUEST or a CLEAR; false when it is lost. */
        private boolean sendToHost(int kind, Payment sent) {
            long[] field = world.goes.field;
            field[TAG_CARD] = sent.card;
            field[TAG_COUNTER] = sent.counter;
            field[TAG_AMOUNT] = sent.amount;
            field[TAG_UN] = sent.un;
            field[TAG_TERMINAL] = number;
            field[TAG_WAY] = sent.way;
            field[TAG_SEAL] = sent.seal;
            field[TAG_MAC] = world.seals.ofTerminal(kind, sent).seal();
            return world.send(kind, SORT_TERMINAL, number, SORT_HOST, 0);
        }

        private void sendToCard(int kind, int answer) {
            world.send(kind, SORT_TERMINAL, number, SORT_CARD, toldCard);
            waitFor(answer);
        }

        private void waitFor(int kind) {
            waitsFor = kind;
            waited = 0;
        }

        private void end(int newOutcome) {
            outcome = newOutcome;
            waitsFor = KIND_NONE;
        }

        boolean givesUpAfter(int ticks) {
            if (waitsFor == KIND_NONE) {
                return false;
            }
            waited += ticks;
            if (waited <= PATIENCE) {
                return false;
            }
            end(OUTCOME_GIVEN_UP);
            return true;
        }
    }

    /** The host: an account for each card, and the debits. */
    private static final class Host {
        private final World world;
        final ArrayList<Account> accounts = new ArrayList<>();
        final ArrayList<Payment> debits = new ArrayList<>();

        Host(World world) {
            this.world = world;
        }

        boolean takes(Content came) {
            switch (came.kind) {
                case KIND_REQUEST:
                    return takesRequest(came);
                case KIND_CLEAR:
                    return takesClear(came);
                default:
                    return false;
            }
        }

        private boolean takesRequest(Content came) {
            Payment payment = paymentOf(came, 1);
            if (!isFromTerminal(came, payment)) {
                return false;
            }
            int word = wordFor(payment);
            world.goes.field[TAG_CARD] = payment.card;
            world.goes.field[TAG_COUNTER] = payment.counter;
            world.goes.field[TAG_SEAL] = world.seals.ofWordToCard(payment.card, payment.counter, word).seal();
            world.goes.field[TAG_WORD] = word;
            world.goes.field[TAG_MAC] = world.seals.ofWordToTerminal(payment, word).seal();
            world.send(KIND_WORD, SORT_HOST, 0, SORT_TERMINAL, payment.terminal);
            return true;
        }

        private int wordFor(Payment payment) {
            if (!isAnswerOfCard(payment)) {
                return 0;
            }
            Account account = accounts.get(payment.card);
            if (payment.counter <= account.last) {
                return 0;
            }
            account.last = payment.counter;
            if (account.cents < payment.amount) {
                return 0;
            }
            take(account, payment);
            return 1;
        }

        private boolean takesClear(Content came) {
            Payment payment = paymentOf(came, 2);
            if (!isFromTerminal(came, payment) || !isAnswerOfCard(payment) || debitsOfCounter(payment) > 0) {
                return false;
            }
            take(accounts.get(payment.card), payment);
            return true;
        }

        private void take(Account account, Payment payment) {
            account.cents -= payment.amount;
            debits.add(payment);
        }

        private static Payment paymentOf(Content came, int answer) {
            Payment payment = new Payment();
            payment.card = came.intField(TAG_CARD);
            payment.counter = came.intField(TAG_COUNTER);
            payment.amount = came.field[TAG_AMOUNT];
            payment.un = came.field[TAG_UN];
            payment.terminal = came.intField(TAG_TERMINAL);
            payment.way = came.intField(TAG_WAY);
            payment.answer = answer;
            payment.seal = came.field[TAG_SEAL];
            return payment;
        }

        private boolean isFromTerminal(Content came, Payment payment) {
            return world.isTerminal(payment.terminal)
                && world.seals.ofTerminal(came.kind, payment).isGood(came.field[TAG_MAC]);
        }

        private boolean isAnswerOfCard(Payment payment) {
            return payment.card < accounts.size() && world.seals.ofAnswer(payment).isGood(payment.seal);
        }

        int debitsOfCounter(Payment payment) {
            int found = 0;
            for (int i = 0; i < debits.size(); i++) {
                Payment debit = debits.get(i);
                if (debit.card == payment.card && debit.counter == payment.counter) {
                    found++;
                }
            }
            return found;
        }
    }
}
