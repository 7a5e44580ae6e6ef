/** "What it is": an object answers as due for 512 calls, and no call fails behind them. */
public final class UseTest {
    private static final String PART = "What it is";

    public static void main(String[] args) {
        manyPurchases();
        manyBegins();
        manyBatches();
        manyTicks();
        behindTheLastCall();
        Due.end();
    }

    /** 3 + 508 + 1 calls. */
    private static void manyPurchases() {
        Due.sentence(PART, "An object is used for at most 512 calls after it has been made");
        CardPayments x = new CardPayments();
        x.card(1234, 100, 1, 500);
        x.terminal(50, 80);
        x.terminal(50, 80);
        long draw = 12346;
        for (int i = 0; i < 508; i++) {
            draw = Rig.draw(draw);
            Due.is("un " + i, x.purchase(1, 0, 1 + i, 0), draw);
        }
        Due.is("all purchases", x.count(5), 508);
    }

    /** 3 + 3 * 169 + 2 calls. */
    private static void manyBegins() {
        Due.sentence(PART, "An object is used for at most 512 calls after it has been made");
        CardPayments x = new CardPayments();
        x.card(1234, 100, 1, 500);
        x.terminal(50, 80);
        x.purchase(0, 0, 10, 0);
        for (int i = 0; i < 169; i++) {
            Due.is("again " + i, x.again(0), true);
            Due.is("BEGIN " + i, x.deliver(1), 1);
            Due.is("drop " + i, x.drop(1), true);
        }
        Due.is("counter", x.told(0, 0), 169);
        Due.is("seals", x.count(4), 169);
    }

    /** 2 + 7 * 65 + 9 + 2 calls: nine purchases without the host, their CLEARs, one by it, and so on. */
    private static void manyBatches() {
        Due.sentence(PART, "An object is used for at most 512 calls after it has been made");
        CardPayments x = new CardPayments();
        x.card(1234, 100, 9, 1000);
        x.terminal(50, 80);
        for (int round = 1; round <= 7; round++) {
            for (int i = 0; i < 9; i++) {
                buy(x, 1, 4);
            }
            Due.is("nine in the batch", x.clear(0), 9);
            for (int i = 0; i < 9; i++) {
                Due.is("CLEAR", x.deliver(0), 1);
            }
            buy(x, 60, 8);
            Due.is("debits", x.count(3), 10 * round);
        }
        buy(x, 60, 8);
        Due.is("account", x.account(0), 1000 - 7 * 69 - 60);
        Due.is("matched", x.matched(), true);
    }

    private static void buy(CardPayments x, long amount, int steps) {
        x.purchase(0, 0, amount, 0);
        for (int i = 0; i < steps; i++) {
            Due.is("step " + i, x.deliver(0), 1);
        }
    }

    /** 2 + 508 + 2 calls. */
    private static void manyTicks() {
        Due.sentence(PART, "An object is used for at most 512 calls after it has been made");
        CardPayments x = new CardPayments();
        x.card(1234, 100, 1, 500);
        x.terminal(50, 80);
        for (int i = 0; i < 508; i++) {
            Due.is("nobody waits", x.tick(100), 0);
        }
        x.purchase(0, 0, 10, 0);
        Due.is("20 ticks", x.tick(20), 0);
    }

    /** What they answer is free, but they end; LANGUAGE.md, rule 7. */
    private static void behindTheLastCall() {
        Due.sentence(PART, "what later calls answer is free");
        Rig rig = Rig.usual();
        for (int i = 0; i < 300; i++) {
            rig.x.purchase(0, 0, 1 + i % 100, 1234);
            rig.deliver(10);
            rig.x.clear(0);
            rig.deliver(1);
            rig.x.matched();
            rig.x.tick(100);
            rig.x.put(i % 256);
        }
        Due.is("all calls ended", true, true);
    }
}
