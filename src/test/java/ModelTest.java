import java.util.ArrayList;
import java.util.List;
import java.util.Random;

/** All promises together: runs of 512 drawn calls, each answered as the plain model answers it. */
public final class ModelTest {
    private static final int RUNS = 4000;
    private static final int CALLS = 512;
    private static final int CALLS_FOR_LOOKING = 150;
    private static final long[] reached = new long[8];

    private final Random random;
    private final CardPayments x = new CardPayments();
    private final PlainModel model = new PlainModel();
    private final List<int[]> seen = new ArrayList<>();
    private final String name;
    private final boolean crowded;
    private int calls = 0;

    private ModelTest(int seed) {
        random = new Random(seed);
        name = "run " + seed;
        crowded = seed % 6 == 5;
    }

    public static void main(String[] args) {
        Due.sentence("What it is", "An object is used for at most 512 calls after it has been made");
        for (int seed = 0; seed < RUNS; seed++) {
            new ModelTest(seed).run();
        }
        for (int outcome = 0; outcome <= 4; outcome++) {
            Due.is("outcome " + outcome + " is reached", reached[outcome] > 100, true);
        }
        Due.is("debits by REQUEST are reached", reached[5] > 1000, true);
        Due.is("debits by CLEAR are reached", reached[6] > 1000, true);
        Due.is("full wires are reached", reached[7] > 100, true);
        Due.end();
    }

    private void run() {
        int cards = 1 + random.nextInt(3);
        int terminals = 1 + random.nextInt(3);
        for (int i = 0; i < cards; i++) {
            newCard();
        }
        for (int i = 0; i < terminals; i++) {
            newTerminal();
        }
        int mischief = random.nextInt(4);
        int end = CALLS - random.nextInt(CALLS_FOR_LOOKING);
        // A replay of the longest message is 40 calls.
        while (calls < end - 40) {
            step(mischief);
        }
        lookAtAll();
        remember();
    }

    private void same(String call, long got, long want) {
        calls++;
        Due.is(name + ", call " + calls + ", " + call, got, want);
    }

    private void same(String call, boolean got, boolean want) {
        same(call, Due.bit(got), Due.bit(want));
    }

    private int number(int many) {
        return random.nextInt(30) == 0 ? random.nextInt(many + 3) - 1 : random.nextInt(Math.max(many, 1));
    }

    private int place() {
        return random.nextInt(4) > 0 ? 0 : number(model.count(2));
    }

    private long amount() {
        long[] amounts = {1, 10, 50, 51, 80, 100, 101, 300, 1000000000L, 0};
        return amounts[random.nextInt(amounts.length)];
    }

    private void newCard() {
        int pin = 1 + random.nextInt(2);
        long single = amount();
        int most = random.nextInt(4);
        long cents = random.nextInt(3000);
        same("card", x.card(pin, single, most, cents), model.card(pin, single, most, cents));
    }

    private void newTerminal() {
        long floor = amount();
        long pinFrom = amount();
        same("terminal", x.terminal(floor, pinFrom), model.terminal(floor, pinFrom));
    }

    private void step(int mischief) {
        int draw = random.nextInt(110);
        if (draw < 64 && crowded && random.nextBoolean()) {
            again(number(model.count(2)));
        } else if (draw < 64) {
            deliver(place());
        } else if (draw < 76) {
            purchase();
        } else if (draw < 80) {
            int t = number(model.count(1));
            same("clear " + t, x.clear(t), model.clear(t));
        } else if (draw < 82 || mischief == 0) {
            tick(random.nextInt(15));
        } else if (draw < 84) {
            int c = number(model.count(0));
            int n = random.nextInt(4);
            same("power", x.power(c, n), model.power(c, n));
        } else if (draw < 88) {
            again(number(model.count(2)));
        } else if (draw < 90 || mischief == 1) {
            int k = number(model.count(2));
            same("drop " + k, x.drop(k), model.drop(k));
        } else if (draw < 94 || mischief == 2) {
            alter();
        } else if (draw < 99) {
            replay();
        } else if (draw < 109) {
            look();
        } else if (random.nextBoolean()) {
            newCard();
        } else {
            newTerminal();
        }
    }

    private void tick(int n) {
        if (!model.leavesOpen(n)) {
            same("tick " + n, x.tick(n), model.tick(n));
        }
    }

    private void purchase() {
        int t = number(model.count(1));
        int c = number(model.count(0));
        long amount = amount();
        int pin = 1 + random.nextInt(2);
        same("purchase", x.purchase(t, c, amount, pin), model.purchase(t, c, amount, pin));
    }

    private void deliver(int k) {
        if (model.count(2) == 60) {
            reached[7]++;
        }
        int size = Math.max(model.message(k, 4), 0);
        int[] letter = new int[size + 4];
        for (int i = 0; i < letter.length; i++) {
            letter[i] = i < 4 ? model.message(k, i) : model.at(k, i - 4);
        }
        if (size > 0) {
            seen.add(letter);
        }
        same("deliver " + k, x.deliver(k), model.deliver(k));
    }

    private void again(int k) {
        same("again " + k, x.again(k), model.again(k));
    }

    private void alter() {
        int k = place();
        int i = random.nextInt(4) > 0 ? 2 + random.nextInt(16) : number(model.message(k, 4));
        int v = random.nextInt(4) > 0 ? random.nextInt(4) : random.nextInt(258) - 1;
        same("alter", x.alter(k, i, v), model.alter(k, i, v));
    }

    /** A message that came before, now and then changed, comes again, now and then to others. */
    private void replay() {
        if (seen.isEmpty()) {
            return;
        }
        int back = Math.min(seen.size(), random.nextBoolean() ? 8 : 200);
        int[] letter = seen.get(seen.size() - 1 - random.nextInt(back)).clone();
        if (random.nextInt(3) == 0) {
            letter[4 + random.nextInt(letter.length - 4)] = random.nextInt(3);
        }
        for (int i = 4; i < letter.length; i++) {
            same("put", x.put(letter[i]), model.put(letter[i]));
        }
        int part = random.nextInt(8);
        if (part < 4) {
            letter[part] = random.nextInt(3);
        }
        same("inject", x.inject(letter[0], letter[1], letter[2], letter[3]),
            model.inject(letter[0], letter[1], letter[2], letter[3]));
    }

    /** One call that asks. */
    private void look() {
        int c = number(model.count(0));
        int k = random.nextBoolean() ? model.count(2) - 1 : number(model.count(2));
        int d = number(model.count(3));
        int t = number(model.count(1));
        int what = random.nextInt(9) - 1;
        int i = number(model.message(k, 4));
        switch (random.nextInt(8)) {
            case 0 -> same("count " + what, x.count(what), model.count(what));
            case 1 -> same("outcome " + t, x.outcome(t), model.outcome(t));
            case 2 -> same("account " + c, x.account(c), model.account(c));
            case 3 -> same("told " + c + ", " + what, x.told(c, what), model.told(c, what));
            case 4 -> same("debit " + d + ", " + what, x.debit(d, what), model.debit(d, what));
            case 5 -> same("message " + k + ", " + what, x.message(k, what), model.message(k, what));
            case 6 -> same("at " + k + ", " + i, x.at(k, i), model.at(k, i));
            default -> same("matched", x.matched(), model.matched());
        }
    }

    /** As much as the calls that are left can ask, what was last first. */
    private void lookAtAll() {
        for (int what = 0; what <= 5 && calls < CALLS; what++) {
            same("count " + what, x.count(what), model.count(what));
        }
        for (int t = 0; t < model.count(1) && calls < CALLS; t++) {
            same("outcome " + t, x.outcome(t), model.outcome(t));
        }
        for (int i = 0; i < 5 * model.count(0) && calls < CALLS; i++) {
            int c = i / 5;
            if (i % 5 == 4) {
                same("account " + c, x.account(c), model.account(c));
            } else {
                same("told " + c + ", " + i % 5, x.told(c, i % 5), model.told(c, i % 5));
            }
        }
        for (int i = 7 * model.count(3) - 1; i >= 0 && calls < CALLS; i--) {
            same("debit " + i / 7 + ", " + i % 7, x.debit(i / 7, i % 7), model.debit(i / 7, i % 7));
        }
        while (calls < CALLS) {
            look();
        }
    }

    private void remember() {
        for (int t = 0; t < model.count(1); t++) {
            reached[model.outcome(t)]++;
        }
        for (int k = 0; k < model.count(3); k++) {
            reached[4 + (int) model.debit(k, 6)]++;
        }
    }
}
