import java.lang.reflect.Field;
import java.util.List;

/** Promises 17, 18 and 21, and the host's part of promise 5: words, debits, accounts. */
public final class HostTest {
    public static void main(String[] args) throws ReflectiveOperationException {
        debitByRequest();
        debitByClear();
        accountHasTheAmount();
        requestThrownAway();
        requestAgain();
        olderCounter();
        refusedRaisesLast();
        clearThrownAway();
        clearLeavesLast();
        seals();
        account();
        debitRefused();
        matchedUnderAttack();
        matchedWithFalseDebits();
        Due.end();
    }

    private static void debitIs(Rig rig, int k, long... want) {
        for (int what = 0; what < want.length; what++) {
            Due.is("P18 debit " + k + ", " + what, rig.x.debit(k, what), want[what]);
        }
    }

    private static void debitByRequest() {
        Rig rig = Rig.with(Rig.REQUEST);
        Due.is("P17 before", rig.x.account(0), 500);
        Due.is("P18 before", rig.x.debit(0, 0), -1);
        rig.deliver(1);
        Due.is("P17 after", rig.x.account(0), 410);
        debitIs(rig, 0, 0, 1, 90, 1406932606L, 0, 1, 1);
    }

    private static void debitByClear() {
        Rig rig = new Rig();
        rig.x.card(0, 0, 0, 10);
        rig.x.card(0, 1000, 9, 10);
        rig.x.terminal(0, 0);
        rig.x.terminal(1000, 1000);
        int un = rig.x.purchase(1, 1, 77, 0);
        rig.deliver(4);
        Due.is("P18 not before CLEAR", rig.x.count(3), 0);
        rig.x.clear(1);
        Due.is("P18 CLEAR is taken", rig.x.deliver(0), 1);
        Due.is("P18 it answers nothing", rig.x.count(2), 0);
        debitIs(rig, 0, 1, 1, 77, un, 1, 0, 2);
        Due.is("P17 below 0", rig.x.account(1), -67);
        Due.is("P17 the other", rig.x.account(0), 10);
        Due.is("P21 matched", rig.x.matched(), true);
    }

    private static void accountHasTheAmount() {
        for (int amount = 499; amount <= 501; amount++) {
            Rig rig = Rig.usual();
            rig.x.purchase(0, 0, amount, 1234);
            rig.deliver(7);
            Due.is("word", rig.field(0, Rig.F_WORD), amount <= 500 ? 1 : 0);
            Due.is("debits", rig.x.count(3), amount <= 500 ? 1 : 0);
            Due.is("P17 account", rig.x.account(0), amount <= 500 ? 500 - amount : 500);
            rig.deliver(3);
            Due.is("P15 outcome", rig.x.outcome(0), amount <= 500 ? 1 : 3);
        }
    }

    private static void requestThrownAway() {
        int[] tags = {Rig.F_CARD, Rig.F_COUNTER, Rig.F_AMOUNT, Rig.F_UN, Rig.F_TERMINAL, Rig.F_WAY, Rig.F_SEAL, Rig.F_MAC};
        for (int kind = Rig.REQUEST; kind <= Rig.CLEAR; kind += Rig.CLEAR - Rig.REQUEST) {
            for (int tag : tags) {
                Rig rig = Rig.with(kind);
                rig.x.terminal(0, 0);
                rig.x.card(0, 0, 0, 0);
                rig.change(0, tag, rig.field(0, tag) + 1);
                Due.is("kind " + kind + " with another field " + tag, rig.x.deliver(0), 0);
                Due.is("no answer", rig.x.count(2), 0);
                Due.is("no debit", rig.x.count(3), 0);
            }
            Rig rig = Rig.with(kind);
            rig.change(0, Rig.F_TERMINAL, 200);
            Due.is("no such terminal", rig.x.deliver(0), 0);
        }
    }

    private static void requestAgain() {
        Rig rig = Rig.with(Rig.REQUEST);
        rig.x.again(0);
        rig.x.again(0);
        int before = rig.x.count(4);
        for (int i = 0; i < 3; i++) {
            Due.is("REQUEST is taken", rig.x.deliver(0), 1);
            Due.is("word", rig.newest(Rig.F_WORD), i == 0 ? 1 : 0);
            Due.is("its seal", rig.newest(Rig.F_SEAL), before + (i == 0 ? 1 : 3));
            Due.is("its mac", rig.newest(Rig.F_MAC), before + (i == 0 ? 2 : 4));
        }
        Due.is("two words, each sealed twice", rig.x.count(4), before + 4);
        Due.is("one debit", rig.x.count(3), 1);
        Due.is("P17 account", rig.x.account(0), 410);
        Due.is("a word of 0 first", rig.x.deliver(1), 1);
        rig.x.drop(0);
        rig.x.drop(0);
        rig.deliverAll();
        Due.is("P15 refused, though there was a debit", rig.x.outcome(0), 3);
    }

    private static void olderCounter() {
        Rig rig = Rig.usual();
        rig.x.terminal(0, 1000);
        rig.x.purchase(0, 0, 60, 0);
        rig.deliver(4);
        rig.x.purchase(1, 0, 70, 0);
        for (int i = 0; i < 4; i++) {
            rig.x.deliver(1);
        }
        Due.is("both REQUESTs", rig.x.count(2), 2);
        rig.x.deliver(1);
        Due.is("the newer counter", rig.field(1, Rig.F_WORD), 1);
        rig.x.deliver(0);
        Due.is("the older counter", rig.field(1, Rig.F_WORD), 0);
        Due.is("one debit", rig.x.count(3), 1);
        Due.is("its counter", rig.x.debit(0, 1), 2);
    }

    /** A right REQUEST without the money raises LAST, so that it is not right again. */
    private static void refusedRaisesLast() {
        Rig rig = Rig.usual();
        rig.x.terminal(0, 1000);
        rig.x.purchase(1, 0, 60, 0);
        rig.deliver(4);
        rig.x.purchase(0, 0, 900, 1234);
        for (int i = 0; i < 6; i++) {
            rig.x.deliver(1);
        }
        rig.x.deliver(1);
        Due.is("no money", rig.field(1, Rig.F_WORD), 0);
        rig.x.deliver(0);
        Due.is("the older counter, with money", rig.field(1, Rig.F_WORD), 0);
        Due.is("no debit", rig.x.count(3), 0);
    }

    private static void clearThrownAway() {
        Rig rig = Rig.with(Rig.CLEAR);
        rig.x.again(0);
        Due.is("CLEAR", rig.x.deliver(0), 1);
        Due.is("CLEAR once more", rig.x.deliver(0), 0);
        Due.is("one debit", rig.x.count(3), 1);
        Due.is("P17 account", rig.x.account(0), 470);
    }

    /** The card pays with its counter 1 without the host, then with 2 by it; CLEAR comes last. */
    private static void clearLeavesLast() {
        Rig rig = Rig.usual();
        rig.x.purchase(0, 0, 30, 0);
        rig.deliver(4);
        rig.x.purchase(0, 0, 60, 0);
        rig.deliver(7);
        Due.is("P15 by the host", rig.x.outcome(0), 0);
        rig.deliverAll();
        Due.is("P15 by the host", rig.x.outcome(0), 1);
        rig.x.clear(0);
        Due.is("CLEAR of a counter below LAST", rig.x.deliver(0), 1);
        Due.is("P17 account", rig.x.account(0), 410);
        Rig later = new Rig();
        later.x.card(0, 1000, 9, 500);
        later.x.terminal(20, 1000);
        later.x.purchase(0, 0, 60, 0);
        later.deliver(4);
        int held = later.x.purchase(0, 0, 10, 0);
        for (int i = 0; i < 4; i++) {
            later.x.deliver(1);
        }
        later.x.clear(0);
        Due.is("CLEAR of the second counter", later.x.deliver(1), 1);
        Due.is("its un", later.x.debit(0, 3), held);
        later.x.deliver(0);
        Due.is("REQUEST of the first counter is right", later.field(0, Rig.F_WORD), 1);
        Due.is("P17 account", later.x.account(0), 430);
        Due.is("P21 matched", later.x.matched(), true);
    }

    private static void seals() {
        Rig rig = Rig.usual();
        int[] due = {0, 1, 1, 1, 1, 2, 3, 5, 5, 6, 6};
        rig.x.purchase(0, 0, 90, 1234);
        for (int i = 0; i <= 10; i++) {
            Due.is("P14 seals after " + i, rig.x.count(4), due[i]);
            rig.deliver(1);
        }
    }

    private static void account() {
        Rig rig = Rig.usual();
        Due.is("P17 below", rig.x.account(-1), 0);
        Due.is("P17 above", rig.x.account(1), 0);
        Due.is("P17 extremes", rig.x.account(Integer.MAX_VALUE), 0);
        Due.is("P17 extremes", rig.x.account(Integer.MIN_VALUE), 0);
    }

    private static void debitRefused() {
        Rig rig = Rig.with(Rig.REQUEST);
        rig.deliver(1);
        Due.is("P18 below", rig.x.debit(-1, 0), -1);
        Due.is("P18 above", rig.x.debit(1, 0), -1);
        Due.is("P18 what below", rig.x.debit(0, -1), -1);
        Due.is("P18 what above", rig.x.debit(0, 7), -1);
        Due.is("P18 extremes", rig.x.debit(Integer.MAX_VALUE, Integer.MIN_VALUE), -1);
    }

    private static void matchedUnderAttack() {
        Rig rig = Rig.usual();
        for (int i = 0; i < 20; i++) {
            rig.x.purchase(0, 0, 10 + i, 1234);
            for (int step = 0; step < 12; step++) {
                rig.x.again(0);
                rig.deliver(1);
            }
            rig.x.clear(0);
            rig.deliverAll();
            Due.is("P21 matched", rig.x.matched(), true);
        }
        Due.is("P21 there are debits", rig.x.count(3) > 2, true);
    }

    /** No run of calls makes a debit that is not matched, so the tests change one behind the object's back. */
    private static void matchedWithFalseDebits() throws ReflectiveOperationException {
        String[] names = {"card", "counter", "amount", "un", "terminal", "way", "answer"};
        for (String name : names) {
            Rig rig = twoDebits();
            raise(listIn(part(rig.x, "host"), "debits").get(1), name);
            Due.is("P21 another " + name, rig.x.matched(), false);
        }
        Rig twice = twoDebits();
        List<Object> debits = listIn(part(twice.x, "host"), "debits");
        debits.add(debits.get(0));
        Due.is("P21 two debits of a counter", twice.x.matched(), false);
        for (String name : new String[] {"terminal", "amount", "un"}) {
            Rig rig = twoDebits();
            raise(listIn(part(rig.x, "world"), "purchases").get(0), name);
            Due.is("P21 no purchase with its " + name, rig.x.matched(), false);
        }
        Rig bought = twoDebits();
        List<Object> purchases = listIn(part(bought.x, "world"), "purchases");
        purchases.add(purchases.get(0));
        Due.is("P21 two purchases", bought.x.matched(), false);
        Rig answered = twoDebits();
        List<Object> answers = listIn(part(answered.x, "world"), "answers");
        answers.add(answers.get(0));
        Due.is("P21 one answer is enough", answered.x.matched(), true);
        answers.clear();
        Due.is("P21 no answer", answered.x.matched(), false);
    }

    private static Rig twoDebits() {
        Rig rig = Rig.with(Rig.CLEAR);
        rig.deliver(1);
        rig.x.purchase(0, 0, 90, 1234);
        rig.deliverAll();
        Due.is("P21 two debits", rig.x.count(3), 2);
        Due.is("P21 matched", rig.x.matched(), true);
        return rig;
    }

    private static void raise(Object payment, String name) throws ReflectiveOperationException {
        Field field = payment.getClass().getDeclaredField(name);
        field.setAccessible(true);
        if (field.getType() == long.class) {
            field.setLong(payment, field.getLong(payment) + 1000);
        } else {
            field.setInt(payment, field.getInt(payment) + 1000);
        }
    }

    private static Object part(Object owner, String name) throws ReflectiveOperationException {
        Field field = owner.getClass().getDeclaredField(name);
        field.setAccessible(true);
        return field.get(owner);
    }

    @SuppressWarnings("unchecked")
    private static List<Object> listIn(Object owner, String name) throws ReflectiveOperationException {
        return (List<Object>) part(owner, name);
    }
}
