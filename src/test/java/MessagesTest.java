import java.util.Arrays;

/** "Terms", the part MESSAGES: the wires, the forms of messages, and what is thrown away. */
public final class MessagesTest {
    private static final String PART = "Terms, MESSAGES";

    public static void main(String[] args) {
        bytesOfEachKind();
        numberedFromZero();
        aSixtiethPurchase();
        aSixtiethClear();
        anAnswerAtSixty();
        anotherKind();
        lessFields();
        moreFields();
        anotherOrder();
        otherLengths();
        cutShort();
        notTakenByOthers();
        notTakenByACardNow();
        notTakenByATerminalNow();
        whoeverItIsFrom();
        answersGoBack();
        Due.end();
    }

    private static void bytesAre(Rig rig, String name, int... want) {
        Due.is(name, Arrays.toString(rig.bytes(0)), Arrays.toString(want));
    }

    /** The second terminal and the third card, so that numbers differ; 16909061 cents is 1 2 3 5 in bytes. */
    private static void bytesOfEachKind() {
        Due.sentence(PART, "A message is its KIND, then for each FIELD, in the order told here, its tag, its length, "
            + "and its bytes (the highest first)");
        Rig rig = new Rig();
        rig.x.card(0, 0, 0, 0);
        rig.x.card(0, 0, 0, 0);
        rig.x.card(0x0102, 1000000000L, 9, 1000000000L);
        rig.x.terminal(0, 0);
        rig.x.terminal(1000, 1000);
        int un = rig.x.purchase(1, 2, 16909061, 0x0102);
        int a = un >> 24 & 255;
        int b = un >> 16 & 255;
        int c = un >> 8 & 255;
        int d = un & 255;
        rig.goesFromTo("BEGIN", 1, 1, 0, 2);
        bytesAre(rig, "BEGIN", 1, 4, 4, a, b, c, d);
        rig.deliver(1);
        rig.goesFromTo("CARD", 0, 2, 1, 1);
        bytesAre(rig, "CARD", 2, 1, 1, 2, 2, 2, 0, 1, 8, 4, 0, 0, 0, 1);
        rig.deliver(1);
        rig.goesFromTo("PIN", 1, 1, 0, 2);
        bytesAre(rig, "PIN", 3, 9, 2, 1, 2);
        rig.deliver(1);
        rig.goesFromTo("PINNED", 0, 2, 1, 1);
        bytesAre(rig, "PINNED", 4, 6, 1, 1);
        rig.deliver(1);
        rig.goesFromTo("ASK", 1, 1, 0, 2);
        bytesAre(rig, "ASK", 5, 3, 5, 0, 1, 2, 3, 5, 4, 4, a, b, c, d, 5, 1, 1, 7, 1, 1);
        rig.deliver(1);
        rig.goesFromTo("ANSWER", 0, 2, 1, 1);
        bytesAre(rig, "ANSWER", 6, 2, 2, 0, 1, 6, 1, 1, 7, 1, 1, 8, 4, 0, 0, 0, 2);
        rig.deliver(1);
        rig.goesFromTo("REQUEST", 1, 1, 2, 0);
        bytesAre(rig, "REQUEST", 7, 1, 1, 2, 2, 2, 0, 1, 3, 5, 0, 1, 2, 3, 5, 4, 4, a, b, c, d,
            5, 1, 1, 6, 1, 1, 8, 4, 0, 0, 0, 2, 11, 4, 0, 0, 0, 3);
        rig.deliver(1);
        rig.goesFromTo("WORD", 2, 0, 1, 1);
        bytesAre(rig, "WORD", 8, 1, 1, 2, 2, 2, 0, 1, 8, 4, 0, 0, 0, 4, 10, 1, 1, 11, 4, 0, 0, 0, 5);
        rig.deliver(1);
        rig.goesFromTo("END", 1, 1, 0, 2);
        bytesAre(rig, "END", 9, 8, 4, 0, 0, 0, 4, 10, 1, 1);
        rig.deliver(1);
        rig.goesFromTo("LAST", 0, 2, 1, 1);
        bytesAre(rig, "LAST", 10, 7, 1, 2, 8, 4, 0, 0, 0, 6);
        rig.deliver(1);
        Due.is("approved by the host", rig.x.outcome(1), 1);
        bytesOfClear(rig);
    }

    private static void bytesOfClear(Rig rig) {
        int un = rig.x.purchase(1, 2, 700, 0);
        rig.deliver(4);
        Due.is("approved without it", rig.x.outcome(1), 2);
        rig.x.clear(1);
        rig.goesFromTo("CLEAR", 1, 1, 2, 0);
        bytesAre(rig, "CLEAR", 11, 1, 1, 2, 2, 2, 0, 2, 3, 5, 0, 0, 0, 2, 188,
            4, 4, un >> 24 & 255, un >> 16 & 255, un >> 8 & 255, un & 255,
            5, 1, 1, 6, 1, 0, 8, 4, 0, 0, 0, 8, 11, 4, 0, 0, 0, 9);
    }

    private static void unsAre(Rig rig, String name, long... uns) {
        Due.is(name + ", how many", rig.x.count(2), uns.length);
        for (int k = 0; k < uns.length; k++) {
            Due.is(name + ", message " + k, rig.field(k, Rig.F_UN), uns[k]);
        }
    }

    private static void numberedFromZero() {
        Due.sentence(PART, "numbered from 0 by when they came");
        Rig rig = Rig.usual();
        long a = rig.x.purchase(0, 0, 10, 0);
        long b = rig.x.purchase(0, 0, 10, 0);
        long c = rig.x.purchase(0, 0, 10, 0);
        unsAre(rig, "three", a, b, c);
        rig.x.drop(1);
        unsAre(rig, "the middle one is gone", a, c);
        rig.x.again(0);
        unsAre(rig, "the first once more", a, c, a);
        rig.x.drop(0);
        unsAre(rig, "the first is gone", c, a);
        rig.x.drop(1);
        unsAre(rig, "the last is gone", c);
        long d = rig.x.purchase(0, 0, 10, 0);
        unsAre(rig, "a new one", c, d);
        rig.x.deliver(1);
        Due.is("CARD is behind", rig.x.at(1, 0), Rig.CARD);
        Due.is("what waited stays before it", rig.field(0, Rig.F_UN), c);
    }

    private static void aSixtiethPurchase() {
        Due.sentence(PART, "at most 60 wait (others are lost)");
        Rig rig = Rig.usual();
        rig.x.purchase(0, 0, 10, 0);
        rig.fillTo(59);
        long sixtieth = rig.x.purchase(0, 0, 10, 0);
        Due.is("sixty wait", rig.x.count(2), 60);
        Due.is("the sixtieth", rig.field(59, Rig.F_UN), sixtieth);
        long lost = rig.x.purchase(0, 0, 10, 0);
        Due.is("a purchase goes on without its BEGIN", lost, Rig.draw(sixtieth));
        Due.is("it is counted", rig.x.count(5), 3);
        Due.is("still sixty wait", rig.x.count(2), 60);
        Due.is("the sixtieth stays", rig.field(59, Rig.F_UN), sixtieth);
        rig.x.drop(0);
        long next = rig.x.purchase(0, 0, 10, 0);
        Due.is("a place was free", rig.x.count(2), 60);
        Due.is("the lost one does not come", rig.field(58, Rig.F_UN), sixtieth);
        Due.is("the newest does", rig.field(59, Rig.F_UN), next);
    }

    private static void aSixtiethClear() {
        Due.sentence(PART, "at most 60 wait (others are lost)");
        Rig rig = TerminalTest.withBatch(3);
        rig.x.purchase(1, 0, 1, 0);
        rig.fillTo(58);
        Due.is("two of three came", rig.x.clear(0), 2);
        Due.is("sixty wait", rig.x.count(2), 60);
        Due.is("the first CLEAR", rig.field(58, Rig.F_AMOUNT), 10);
        Due.is("the second CLEAR", rig.field(59, Rig.F_AMOUNT), 11);
    }

    private static void anAnswerAtSixty() {
        Due.sentence(PART, "at most 60 wait (others are lost)");
        Rig rig = Rig.usual();
        rig.x.purchase(0, 0, 10, 0);
        rig.fillTo(60);
        Due.is("BEGIN is taken", rig.x.deliver(0), 1);
        Due.is("its answer has the place that it left", rig.x.count(2), 60);
        Due.is("CARD is behind all", rig.x.at(59, 0), Rig.CARD);
    }

    /** The message of this kind that waits, changed, comes to the same one instead. */
    private static int comesAs(int kind, int... bytes) {
        Rig rig = Rig.with(kind);
        int[] ends = {rig.x.message(0, 0), rig.x.message(0, 1), rig.x.message(0, 2), rig.x.message(0, 3)};
        int taken = rig.feed(ends[0], ends[1], ends[2], ends[3], bytes);
        if (taken == 0) {
            Due.is("what is thrown away is gone, and has no answer", rig.x.count(2), 1);
            Due.is("what is thrown away leaves the true one to come", rig.x.deliver(0), 1);
        }
        return taken;
    }

    private static int[] goodBytes(int kind) {
        return Rig.with(kind).bytes(0);
    }

    /** Where each field begins, and behind the last of them the message's end. */
    private static int[] starts(int[] bytes) {
        int[] starts = new int[bytes.length];
        int many = 0;
        int next = 1;
        while (next < bytes.length) {
            starts[many++] = next;
            next += 2 + bytes[next + 1];
        }
        starts[many++] = next;
        return Arrays.copyOf(starts, many);
    }

    /** The bytes with those from start to end taken out and others put there. */
    private static int[] with(int[] bytes, int start, int end, int... others) {
        int[] changed = new int[bytes.length - (end - start) + others.length];
        System.arraycopy(bytes, 0, changed, 0, start);
        System.arraycopy(others, 0, changed, start, others.length);
        System.arraycopy(bytes, end, changed, start + others.length, bytes.length - end);
        return changed;
    }

    private static void anotherKind() {
        Due.sentence(PART, "One that has another kind");
        for (int kind = 1; kind <= 11; kind++) {
            int[] bytes = goodBytes(kind);
            for (int other = 0; other <= 255; other++) {
                // A CLEAR that is called a REQUEST has the form, but not the mac; so the other way.
                Due.is("kind " + kind + " called " + other, comesAs(kind, with(bytes, 0, 1, other)),
                    other == kind ? 1 : 0);
            }
        }
        int[] others = {0, 12, 255};
        for (int other : others) {
            Rig rig = Rig.usual();
            Due.is("BEGIN", rig.begin(0, 5), 1);
            Due.is("kind " + other + " behind a BEGIN", rig.feed(1, 0, 0, 0, other), 0);
            Due.is("BEGIN called " + other + " behind a BEGIN", rig.feed(1, 0, 0, 0, other, 4, 4, 0, 0, 0, 5), 0);
            rig.cardIs("one BEGIN was taken", 1, 3, 0, 1);
        }
    }

    private static void lessFields() {
        Due.sentence(PART, "or not just these fields");
        for (int kind = 1; kind <= 11; kind++) {
            int[] bytes = goodBytes(kind);
            int[] starts = starts(bytes);
            for (int f = 0; f + 1 < starts.length; f++) {
                Due.is("kind " + kind + " without field " + f, comesAs(kind, with(bytes, starts[f], starts[f + 1])), 0);
            }
            Due.is("kind " + kind + " without any field", comesAs(kind, kind), 0);
        }
    }

    private static void moreFields() {
        Due.sentence(PART, "or not just these fields");
        for (int kind = 1; kind <= 11; kind++) {
            int[] bytes = goodBytes(kind);
            int[] starts = starts(bytes);
            int end = bytes.length;
            for (int f = 0; f + 1 < starts.length; f++) {
                int[] field = Arrays.copyOfRange(bytes, starts[f], starts[f + 1]);
                Due.is("kind " + kind + " with field " + f + " twice",
                    comesAs(kind, with(bytes, starts[f], starts[f], field)), 0);
                Due.is("kind " + kind + " with field " + f + " at its end once more",
                    comesAs(kind, with(bytes, end, end, field)), 0);
                int[] other = field.clone();
                other[0] = field[0] % 11 + 1;
                Due.is("kind " + kind + " with another field for " + f,
                    comesAs(kind, with(bytes, starts[f], starts[f + 1], other)), 0);
            }
            Due.is("kind " + kind + " with a field of no bytes", comesAs(kind, with(bytes, end, end, 12, 0)), 0);
        }
    }

    private static void anotherOrder() {
        Due.sentence(PART, "in this order");
        for (int kind = 1; kind <= 11; kind++) {
            int[] bytes = goodBytes(kind);
            int[] starts = starts(bytes);
            for (int f = 0; f + 2 < starts.length; f++) {
                int[] first = Arrays.copyOfRange(bytes, starts[f], starts[f + 1]);
                int[] without = with(bytes, starts[f], starts[f + 1]);
                int behind = starts[f] + starts[f + 2] - starts[f + 1];
                Due.is("kind " + kind + " with fields " + f + " and " + (f + 1) + " the other way round",
                    comesAs(kind, with(without, behind, behind, first)), 0);
            }
        }
    }

    private static void otherLengths() {
        Due.sentence(PART, "with these lengths");
        for (int kind = 1; kind <= 11; kind++) {
            int[] bytes = goodBytes(kind);
            int[] starts = starts(bytes);
            for (int f = 0; f + 1 < starts.length; f++) {
                int length = bytes[starts[f] + 1];
                int place = starts[f] + 1;
                int end = starts[f + 1];
                Due.is("kind " + kind + " with field " + f + " a byte longer",
                    comesAs(kind, with(with(bytes, place + 1, place + 1, 0), place, place + 1, length + 1)), 0);
                Due.is("kind " + kind + " with field " + f + " a byte shorter",
                    comesAs(kind, with(with(bytes, end - 1, end), place, place + 1, length - 1)), 0);
                Due.is("kind " + kind + " with field " + f + " said to be longer",
                    comesAs(kind, with(bytes, place, place + 1, length + 1)), 0);
                Due.is("kind " + kind + " with field " + f + " said to be shorter",
                    comesAs(kind, with(bytes, place, place + 1, length - 1)), 0);
                Due.is("kind " + kind + " with field " + f + " as it is",
                    comesAs(kind, with(bytes, place, place + 1, length)), 1);
            }
        }
    }

    /** As many bytes as there may be, from one alone to all 64; only the true size is a message. */
    private static void cutShort() {
        Due.sentence(PART, "or not just these fields in this order with these lengths");
        for (int kind = 1; kind <= 11; kind++) {
            int[] bytes = goodBytes(kind);
            for (int size = 1; size <= 64; size++) {
                Due.is("kind " + kind + " with " + size + " bytes", comesAs(kind, Arrays.copyOf(bytes, size)),
                    size == bytes.length ? 1 : 0);
            }
        }
    }

    private static boolean isForCard(int kind) {
        return kind == Rig.BEGIN || kind == Rig.PIN || kind == Rig.ASK || kind == Rig.END;
    }

    private static boolean isForHost(int kind) {
        return kind == Rig.REQUEST || kind == Rig.CLEAR;
    }

    private static void notTakenByOthers() {
        Due.sentence(PART, "or that comes to one who does not take its kind now, is THROWN AWAY");
        for (int kind = 1; kind <= 11; kind++) {
            int[] bytes = goodBytes(kind);
            Due.is("a card and kind " + kind, Rig.with(kind).feed(1, 0, 0, 0, bytes), isForCard(kind) ? 1 : 0);
            Due.is("a terminal and kind " + kind, Rig.with(kind).feed(0, 0, 1, 0, bytes),
                isForCard(kind) || isForHost(kind) ? 0 : 1);
            Due.is("the host and kind " + kind, Rig.with(kind).feed(1, 0, 2, 0, bytes), isForHost(kind) ? 1 : 0);
        }
    }

    private static Rig inStage(int stage) {
        Rig rig = Rig.usual();
        if (stage > 0) {
            rig.begin(0, 5);
        }
        if (stage > 1) {
            rig.ask(0, 10, 5, 0, 1);
        }
        Due.is("the card's stage", rig.x.told(0, 3), stage);
        return rig;
    }

    private static void notTakenByACardNow() {
        Due.sentence(PART, "or that comes to one who does not take its kind now, is THROWN AWAY");
        for (int stage = 0; stage <= 2; stage++) {
            Due.is("BEGIN in stage " + stage, inStage(stage).begin(0, 7), 1);
            Due.is("PIN in stage " + stage, inStage(stage).pin(0, 7), stage == 1 ? 1 : 0);
            Due.is("ASK in stage " + stage, inStage(stage).ask(0, 7, 7, 0, 1), stage == 1 ? 1 : 0);
            Due.is("END in stage " + stage, inStage(stage).end(0, 7, 1), stage == 2 ? 1 : 0);
        }
    }

    /** What each step of a terminal waits for, while every other kind is thrown away. */
    private static void notTakenByATerminalNow() {
        Due.sentence(PART, "or that comes to one who does not take its kind now, is THROWN AWAY");
        int[] waitsFor = {0, Rig.CARD, Rig.CARD, Rig.PINNED, Rig.PINNED, Rig.ANSWER, Rig.ANSWER, Rig.WORD, Rig.WORD,
            Rig.LAST, Rig.LAST};
        for (int step = 1; step <= 10; step++) {
            for (int kind = 1; kind <= 11; kind++) {
                Rig rig = Rig.with(step);
                int taken = rig.feed(0, 0, 1, 0, goodBytes(kind));
                // The very WORD of this purchase is not sealed before the host has made it.
                boolean tooEarly = kind == Rig.WORD && step == Rig.REQUEST;
                Due.is("kind " + kind + " at step " + step, taken, kind == waitsFor[step] && !tooEarly ? 1 : 0);
            }
        }
        for (int kind = 1; kind <= 11; kind++) {
            Due.is("kind " + kind + " before any purchase", Rig.usual().feed(0, 0, 1, 0, goodBytes(kind)), 0);
        }
    }

    private static void whoeverItIsFrom() {
        Due.sentence(PART, "whoever it is from does not matter");
        int[][] senders = {{0, 0}, {0, 1}, {1, 0}, {1, 1}, {2, 0}};
        for (int kind = 1; kind <= 11; kind++) {
            int[] bytes = goodBytes(kind);
            for (int[] sender : senders) {
                Rig rig = Rig.with(kind);
                rig.x.card(0, 0, 0, 0);
                rig.x.terminal(0, 0);
                int sort = rig.x.message(0, 2);
                rig.dropAll();
                Due.is("kind " + kind + " from " + sender[0] + " " + sender[1],
                    rig.feed(sender[0], sender[1], sort, 0, bytes), 1);
            }
        }
    }

    private static void answersGoBack() {
        Due.sentence(PART, "Answers go to who a message came from");
        int[][] senders = {{0, 0}, {0, 1}, {1, 0}, {1, 1}, {2, 0}};
        int[] kinds = {Rig.BEGIN, Rig.PIN, Rig.ASK, Rig.END};
        for (int kind : kinds) {
            int[] bytes = goodBytes(kind);
            for (int[] sender : senders) {
                Rig rig = Rig.with(kind);
                rig.x.card(0, 0, 0, 0);
                rig.x.terminal(0, 0);
                rig.dropAll();
                rig.feed(sender[0], sender[1], 0, 0, bytes);
                Due.is("one answer", rig.x.count(2), 1);
                Due.is("its kind", rig.x.at(0, 0), kind + 1);
                rig.goesFromTo("the answer to kind " + kind, 0, 0, sender[0], sender[1]);
            }
        }
    }
}
