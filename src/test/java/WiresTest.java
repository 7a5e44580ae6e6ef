/** Promises 5 to 10, 19 and 20: the wires, the forms of messages and what a stranger does. */
public final class WiresTest {
    public static void main(String[] args) {
        bytesOfEachKind();
        deliver();
        formsThrownAway();
        kindsNotTaken();
        whoeverItIsFrom();
        alter();
        drop();
        again();
        put();
        inject();
        injectRefused();
        messageAndAt();
        sixtyWait();
        Due.end();
    }

    private static void bytesAre(Rig rig, int k, String name, int... want) {
        Due.is(name + " length", rig.x.message(k, 4), want.length);
        for (int i = 0; i < want.length; i++) {
            Due.is(name + " byte " + i, rig.x.at(k, i), want[i]);
        }
        Due.is(name + " behind its end", rig.x.at(k, want.length), -1);
    }

    private static void goesFromTo(Rig rig, String name, int fromSort, int from, int toSort, int to) {
        Due.is(name + " sort from", rig.x.message(0, 0), fromSort);
        Due.is(name + " from", rig.x.message(0, 1), from);
        Due.is(name + " sort to", rig.x.message(0, 2), toSort);
        Due.is(name + " to", rig.x.message(0, 3), to);
    }

    /** The second terminal and the third card, so that numbers differ; 16909061 cents is 1 2 3 5 in bytes. */
    private static void bytesOfEachKind() {
        Rig rig = new Rig();
        rig.x.card(0, 0, 0, 0);
        rig.x.card(0, 0, 0, 0);
        rig.x.card(0x0102, 1000000000L, 9, 1000000000L);
        rig.x.terminal(0, 0);
        rig.x.terminal(1000, 1000);
        int un = rig.x.purchase(1, 2, 16909061, 0x0102);
        int a = un >> 24 & 255;
        int b = un >> 16 & 255;
        int c = un >> 8 & 255;
        int d = un & 255;
        goesFromTo(rig, "BEGIN", 1, 1, 0, 2);
        bytesAre(rig, 0, "BEGIN", 1, 4, 4, a, b, c, d);
        rig.deliver(1);
        goesFromTo(rig, "CARD", 0, 2, 1, 1);
        bytesAre(rig, 0, "CARD", 2, 1, 1, 2, 2, 2, 0, 1, 8, 4, 0, 0, 0, 1);
        rig.deliver(1);
        goesFromTo(rig, "PIN", 1, 1, 0, 2);
        bytesAre(rig, 0, "PIN", 3, 9, 2, 1, 2);
        rig.deliver(1);
        goesFromTo(rig, "PINNED", 0, 2, 1, 1);
        bytesAre(rig, 0, "PINNED", 4, 6, 1, 1);
        rig.deliver(1);
        goesFromTo(rig, "ASK", 1, 1, 0, 2);
        bytesAre(rig, 0, "ASK", 5, 3, 5, 0, 1, 2, 3, 5, 4, 4, a, b, c, d, 5, 1, 1, 7, 1, 1);
        rig.deliver(1);
        goesFromTo(rig, "ANSWER", 0, 2, 1, 1);
        bytesAre(rig, 0, "ANSWER", 6, 2, 2, 0, 1, 6, 1, 1, 7, 1, 1, 8, 4, 0, 0, 0, 2);
        rig.deliver(1);
        goesFromTo(rig, "REQUEST", 1, 1, 2, 0);
        bytesAre(rig, 0, "REQUEST", 7, 1, 1, 2, 2, 2, 0, 1, 3, 5, 0, 1, 2, 3, 5, 4, 4, a, b, c, d,
            5, 1, 1, 6, 1, 1, 8, 4, 0, 0, 0, 2, 11, 4, 0, 0, 0, 3);
        rig.deliver(1);
        goesFromTo(rig, "WORD", 2, 0, 1, 1);
        bytesAre(rig, 0, "WORD", 8, 1, 1, 2, 2, 2, 0, 1, 8, 4, 0, 0, 0, 4, 10, 1, 1, 11, 4, 0, 0, 0, 5);
        rig.deliver(1);
        goesFromTo(rig, "END", 1, 1, 0, 2);
        bytesAre(rig, 0, "END", 9, 8, 4, 0, 0, 0, 4, 10, 1, 1);
        rig.deliver(1);
        goesFromTo(rig, "LAST", 0, 2, 1, 1);
        bytesAre(rig, 0, "LAST", 10, 7, 1, 2, 8, 4, 0, 0, 0, 6);
        rig.deliver(1);
        Due.is("P15 approved by the host", rig.x.outcome(1), 1);
        bytesOfClear(rig);
    }

    private static void bytesOfClear(Rig rig) {
        int un = rig.x.purchase(1, 2, 700, 0);
        rig.deliver(4);
        Due.is("P15 approved without it", rig.x.outcome(1), 2);
        Due.is("P13 one of the batch", rig.x.clear(1), 1);
        goesFromTo(rig, "CLEAR", 1, 1, 2, 0);
        bytesAre(rig, 0, "CLEAR", 11, 1, 1, 2, 2, 2, 0, 2, 3, 5, 0, 0, 0, 2, 188,
            4, 4, un >> 24 & 255, un >> 16 & 255, un >> 8 & 255, un & 255,
            5, 1, 1, 6, 1, 0, 8, 4, 0, 0, 0, 8, 11, 4, 0, 0, 0, 9);
    }

    private static void deliver() {
        for (int kind = 1; kind <= 11; kind++) {
            Rig rig = Rig.with(kind);
            Due.is("P5 below", rig.x.deliver(-1), -1);
            Due.is("P5 above", rig.x.deliver(1), -1);
            Due.is("P5 extremes", rig.x.deliver(Integer.MAX_VALUE), -1);
            Due.is("P5 extremes", rig.x.deliver(Integer.MIN_VALUE), -1);
            Due.is("P5 none is gone", rig.x.count(2), 1);
            Due.is("P5 taken, kind " + kind, rig.x.deliver(0), 1);
        }
        Rig rig = Rig.usual();
        rig.x.purchase(0, 0, 10, 0);
        rig.x.purchase(0, 0, 20, 0);
        long second = rig.field(1, Rig.F_UN);
        Due.is("P5 the newer first", rig.x.deliver(1), 1);
        Due.is("P5 its CARD is behind", rig.x.at(1, 0), Rig.CARD);
        Due.is("P5 its CARD is taken", rig.x.deliver(1), 1);
        Due.is("P5 the newer un", rig.field(1, Rig.F_UN), second);
    }

    private static void copyToRow(Rig rig, int bytes) {
        for (int i = 0; i < bytes; i++) {
            rig.x.put(Math.max(rig.x.at(0, i), 0));
        }
    }

    private static void injectLikeFirst(Rig rig) {
        rig.x.inject(rig.x.message(0, 0), rig.x.message(0, 1), rig.x.message(0, 2), rig.x.message(0, 3));
    }

    /** Each byte of a tag, a length or the kind changed, and a byte more or less. */
    private static void formsThrownAway() {
        for (int kind = 1; kind <= 11; kind++) {
            Rig first = Rig.with(kind);
            int size = first.x.message(0, 4);
            for (int i = 1; i < size; i += 2 + first.x.at(0, i + 1)) {
                for (int part = 0; part < 2; part++) {
                    for (int by = -1; by <= 1; by += 2) {
                        Rig rig = Rig.with(kind);
                        rig.x.alter(0, i + part, rig.x.at(0, i + part) + by);
                        Due.is("P5 kind " + kind + " changed at " + (i + part), rig.x.deliver(0), 0);
                        Due.is("P5 it is gone", rig.x.count(2), 0);
                    }
                }
            }
            for (int other = 0; other <= 255; other++) {
                boolean same = other == kind;
                Rig rig = Rig.with(kind);
                rig.x.alter(0, 0, other);
                // A CLEAR that is called a REQUEST has the form, but not the mac; so the other way.
                Due.is("P5 kind " + kind + " called " + other, rig.x.deliver(0), same ? 1 : 0);
            }
            for (int bytes = size - 1; bytes <= size + 1; bytes++) {
                Rig rig = Rig.with(kind);
                copyToRow(rig, bytes);
                injectLikeFirst(rig);
                Due.is("P5 kind " + kind + " with " + bytes + " bytes", rig.x.deliver(1), bytes == size ? 1 : 0);
            }
        }
    }

    private static void kindsNotTaken() {
        for (int kind = 1; kind <= 11; kind++) {
            Rig atCard = Rig.with(kind);
            copyToRow(atCard, atCard.x.message(0, 4));
            atCard.x.inject(1, 0, 0, 0);
            boolean forCard = kind == Rig.BEGIN || kind == Rig.PIN || kind == Rig.ASK || kind == Rig.END;
            Due.is("P5 a card and kind " + kind, atCard.x.deliver(1), forCard ? 1 : 0);
            Rig atTerminal = Rig.with(kind);
            copyToRow(atTerminal, atTerminal.x.message(0, 4));
            atTerminal.x.inject(0, 0, 1, 0);
            boolean forHost = kind == Rig.REQUEST || kind == Rig.CLEAR;
            Due.is("P5 a terminal and kind " + kind, atTerminal.x.deliver(1), forCard || forHost ? 0 : 1);
            Rig atHost = Rig.with(kind);
            copyToRow(atHost, atHost.x.message(0, 4));
            atHost.x.inject(0, 0, 2, 0);
            Due.is("P5 the host and kind " + kind, atHost.x.deliver(1), forHost ? 1 : 0);
            boolean twice = kind == Rig.BEGIN || kind == Rig.PIN || kind == Rig.REQUEST;
            Rig again = Rig.with(kind);
            again.x.again(0);
            again.x.deliver(0);
            Due.is("P5 a second time, kind " + kind, again.x.deliver(0), twice ? 1 : 0);
        }
    }

    private static void whoeverItIsFrom() {
        Rig rig = Rig.usual();
        rig.x.card(0, 0, 0, 0);
        rig.row(Rig.BEGIN, Rig.F_UN, 7);
        rig.x.inject(2, 0, 0, 1);
        Due.is("P5 BEGIN from the host", rig.x.deliver(0), 1);
        goesFromTo(rig, "CARD to the host", 0, 1, 2, 0);
        Due.is("P5 the host does not take CARD", rig.x.deliver(0), 0);
        rig.row(Rig.PIN, Rig.F_PIN, 0);
        rig.x.inject(0, 0, 0, 1);
        Due.is("P5 PIN from a card", rig.x.deliver(0), 1);
        goesFromTo(rig, "PINNED to a card", 0, 1, 0, 0);
        Due.is("P5 a card does not take PINNED", rig.x.deliver(0), 0);
        Rig request = Rig.with(Rig.REQUEST);
        request.x.terminal(0, 0);
        copyToRow(request, request.x.message(0, 4));
        request.x.inject(1, 1, 2, 0);
        Due.is("P5 REQUEST from another", request.x.deliver(1), 1);
        request.x.drop(0);
        goesFromTo(request, "WORD to the terminal that is told", 2, 0, 1, 0);
    }

    private static void alter() {
        Rig rig = Rig.usual();
        rig.x.purchase(0, 0, 10, 0);
        rig.x.purchase(0, 0, 20, 0);
        int first = rig.x.at(0, 3);
        Due.is("P6 the first byte", rig.x.alter(1, 0, 0), true);
        Due.is("P6 the last byte", rig.x.alter(1, 6, 255), true);
        Due.is("P6 became", rig.x.at(1, 0), 0);
        Due.is("P6 became", rig.x.at(1, 6), 255);
        Due.is("P6 the other stays", rig.x.at(0, 3), first);
        Due.is("P6 kind of the other", rig.x.at(0, 0), 1);
        Due.is("P6 message below", rig.x.alter(-1, 0, 0), false);
        Due.is("P6 message above", rig.x.alter(2, 0, 0), false);
        Due.is("P6 byte below", rig.x.alter(0, -1, 0), false);
        Due.is("P6 byte above", rig.x.alter(0, 7, 0), false);
        Due.is("P6 byte far above", rig.x.alter(0, 64, 0), false);
        Due.is("P6 value below", rig.x.alter(0, 0, -1), false);
        Due.is("P6 value above", rig.x.alter(0, 0, 256), false);
        Due.is("P6 nothing became", rig.x.at(0, 0), 1);
        Due.is("P6 extremes", rig.x.alter(Integer.MIN_VALUE, Integer.MAX_VALUE, Integer.MIN_VALUE), false);
    }

    private static void drop() {
        Rig rig = Rig.usual();
        rig.x.purchase(0, 0, 10, 0);
        rig.x.purchase(0, 0, 10, 0);
        int un = rig.x.purchase(0, 0, 10, 0);
        Due.is("P7 below", rig.x.drop(-1), false);
        Due.is("P7 above", rig.x.drop(3), false);
        Due.is("P7 extremes", rig.x.drop(Integer.MAX_VALUE), false);
        Due.is("P7 the second", rig.x.drop(1), true);
        Due.is("P7 two are left", rig.x.count(2), 2);
        Due.is("P7 the third is the second", rig.field(1, Rig.F_UN), un);
        Due.is("P7 the card knows of none", rig.x.told(0, 0), 0);
        Due.is("P7 drop", rig.x.drop(0), true);
        Due.is("P7 drop", rig.x.drop(0), true);
        Due.is("P7 nothing left", rig.x.drop(0), false);
    }

    private static void again() {
        Rig rig = Rig.usual();
        int un = rig.x.purchase(0, 0, 10, 0);
        rig.x.purchase(0, 0, 10, 0);
        rig.x.alter(0, 1, 99);
        Due.is("P8 below", rig.x.again(-1), false);
        Due.is("P8 above", rig.x.again(2), false);
        Due.is("P8 extremes", rig.x.again(Integer.MIN_VALUE), false);
        Due.is("P8 once more", rig.x.again(0), true);
        Due.is("P8 three wait", rig.x.count(2), 3);
        Due.is("P8 its bytes as they are now", rig.x.at(2, 1), 99);
        Due.is("P8 its length", rig.x.message(2, 4), 7);
        Due.is("P8 its sender", rig.x.message(2, 0), 1);
        rig.x.alter(0, 1, 4);
        Due.is("P8 two messages, not one", rig.x.at(2, 1), 99);
        rig.x.alter(2, 1, 4);
        Due.is("P8 its un", rig.field(2, Rig.F_UN), un);
    }

    private static void put() {
        Rig rig = Rig.usual();
        Due.is("P9 below", rig.x.put(-1), -1);
        Due.is("P9 above", rig.x.put(256), -1);
        for (int i = 1; i <= 64; i++) {
            Due.is("P9 byte", rig.x.put(i * 3 & 255), i);
        }
        Due.is("P9 beyond 64", rig.x.put(0), -1);
        Due.is("P9 goes as it is", rig.x.inject(2, 0, 0, 0), true);
        Due.is("P9 all bytes", rig.x.message(0, 4), 64);
        for (int i = 0; i < 64; i++) {
            Due.is("P9 byte " + i, rig.x.at(0, i), (i + 1) * 3 & 255);
        }
        Due.is("P9 the row is empty", rig.x.put(255), 1);
        Due.is("P9 thrown away", rig.x.deliver(0), 0);
    }

    private static void inject() {
        Rig rig = new Rig();
        for (int i = 0; i < 3; i++) {
            rig.x.card(0, 0, 0, 0);
        }
        for (int i = 0; i < 2; i++) {
            rig.x.terminal(0, 0);
        }
        int[] many = {3, 2, 1};
        int k = 0;
        for (int fromSort = 0; fromSort <= 2; fromSort++) {
            for (int toSort = 0; toSort <= 2; toSort++) {
                int from = many[fromSort] - 1;
                int to = many[toSort] - 1;
                rig.x.put(k);
                Due.is("P10 from above", rig.x.inject(fromSort, from + 1, toSort, to), false);
                Due.is("P10 to above", rig.x.inject(fromSort, from, toSort, to + 1), false);
                Due.is("P10 from below", rig.x.inject(fromSort, -1, toSort, to), false);
                Due.is("P10 to below", rig.x.inject(fromSort, from, toSort, -1), false);
                Due.is("P10 inject", rig.x.inject(fromSort, from, toSort, to), true);
                Due.is("P10 sort from", rig.x.message(k, 0), fromSort);
                Due.is("P10 from", rig.x.message(k, 1), from);
                Due.is("P10 sort to", rig.x.message(k, 2), toSort);
                Due.is("P10 to", rig.x.message(k, 3), to);
                Due.is("P10 size", rig.x.message(k, 4), 1);
                Due.is("P10 byte", rig.x.at(k, 0), k);
                k++;
            }
        }
    }

    private static void injectRefused() {
        Rig rig = Rig.usual();
        Due.is("P10 an empty row", rig.x.inject(0, 0, 1, 0), false);
        rig.x.put(1);
        Due.is("P10 sort from below", rig.x.inject(-1, 0, 1, 0), false);
        Due.is("P10 sort from above", rig.x.inject(3, 0, 1, 0), false);
        Due.is("P10 sort to below", rig.x.inject(0, 0, -1, 0), false);
        Due.is("P10 sort to above", rig.x.inject(0, 0, 3, 0), false);
        Due.is("P10 the host has 0 alone", rig.x.inject(0, 0, 2, 1), false);
        Due.is("P10 nothing came", rig.x.count(2), 0);
        Due.is("P10 the row stays", rig.x.put(2), 2);
        Due.is("P10 now", rig.x.inject(0, 0, 1, 0), true);
        Due.is("P10 both bytes", rig.x.message(0, 4), 2);
        Due.is("P10 empty then", rig.x.inject(0, 0, 1, 0), false);
    }

    private static void messageAndAt() {
        Rig rig = Rig.usual();
        rig.x.purchase(0, 0, 10, 0);
        for (int what = 0; what <= 4; what++) {
            Due.is("P19 message below", rig.x.message(-1, what), -1);
            Due.is("P19 message above", rig.x.message(1, what), -1);
        }
        Due.is("P19 what below", rig.x.message(0, -1), -1);
        Due.is("P19 what above", rig.x.message(0, 5), -1);
        Due.is("P19 extremes", rig.x.message(Integer.MAX_VALUE, Integer.MIN_VALUE), -1);
        Due.is("P20 message below", rig.x.at(-1, 0), -1);
        Due.is("P20 message above", rig.x.at(1, 0), -1);
        Due.is("P20 byte below", rig.x.at(0, -1), -1);
        Due.is("P20 byte above", rig.x.at(0, 7), -1);
        Due.is("P20 last byte", rig.x.at(0, 6), 126);
        Due.is("P20 extremes", rig.x.at(Integer.MIN_VALUE, Integer.MAX_VALUE), -1);
    }

    private static void sixtyWait() {
        Rig rig = Rig.usual();
        for (int i = 0; i < 59; i++) {
            rig.x.purchase(0, 0, 10, 0);
        }
        rig.x.put(1);
        Due.is("P8 the sixtieth", rig.x.again(0), true);
        Due.is("P8 the next", rig.x.again(0), false);
        Due.is("P10 the next", rig.x.inject(0, 0, 1, 0), false);
        Due.is("P9 the row stays", rig.x.put(1), 2);
        long un = Rig.draw(rig.field(58, Rig.F_UN));
        Due.is("P4 a lost BEGIN", rig.x.purchase(0, 0, 10, 0), un);
        Due.is("P4 it counts", rig.x.count(5), 60);
        Due.is("P4 sixty wait", rig.x.count(2), 60);
        Due.is("P5 an answer has the place of what came", rig.x.deliver(0), 1);
        Due.is("P5 sixty wait", rig.x.count(2), 60);
        Due.is("P5 the answer is behind all", rig.x.at(59, 0), Rig.CARD);
        Due.is("P7 drop", rig.x.drop(30), true);
        Due.is("P10 a place is free", rig.x.inject(0, 0, 1, 0), true);
    }
}
