import java.util.ArrayList;
import java.util.Arrays;
import java.util.HashMap;
import java.util.LinkedHashMap;
import java.util.List;
import java.util.Map;

/** The document's terms once more, in maps and texts, for ModelTest to hold the class against. */
final class PlainModel {
    private static final String[] FORMS = {"", "4", "1 2 8", "9", "6", "3 4 5 7", "2 6 7 8", "1 2 3 4 5 6 8 11",
        "1 2 8 10 11", "8 10", "7 8", "1 2 3 4 5 6 8 11"};
    private static final int[] LENGTHS = {0, 1, 2, 5, 4, 1, 1, 1, 4, 2, 1, 4};

    /** Values by name, 0 when they were never told. */
    private static final class Values extends HashMap<String, Long> {
        private static final long serialVersionUID = 1L;

        long of(String name) {
            return getOrDefault(name, 0L);
        }

        void set(String name, long value) {
            put(name, value);
        }
    }

    private static final class Mail {
        int[] ends;
        int[] bytes;
    }

    private static final class PowerLost extends RuntimeException {
        private static final long serialVersionUID = 1L;
    }

    private final Map<String, Long> seals = new LinkedHashMap<>();
    private final List<Mail> wires = new ArrayList<>();
    private final List<Values> cards = new ArrayList<>();
    private final List<Values> terminals = new ArrayList<>();
    private final List<List<long[]>> batches = new ArrayList<>();
    private final List<long[]> debits = new ArrayList<>();
    private final List<String> purchases = new ArrayList<>();
    private final List<String> answers = new ArrayList<>();
    private final List<Integer> row = new ArrayList<>();
    private long now = 0;

    private static String named(String key, long... numbers) {
        return key + Arrays.toString(numbers);
    }

    private long seal(String key, long... numbers) {
        return seals.computeIfAbsent(named(key, numbers), text -> seals.size() + 1L);
    }

    private boolean good(long seal, String key, long... numbers) {
        Long theirs = seals.get(named(key, numbers));
        return theirs != null && theirs == seal;
    }

    private static boolean in(long value, long least, long most) {
        return least <= value && value <= most;
    }

    private boolean send(int[] ends, int kind, long... values) {
        if (wires.size() == 60) {
            return false;
        }
        List<Integer> bytes = new ArrayList<>();
        bytes.add(kind);
        String[] tags = FORMS[kind].split(" ");
        for (int f = 0; f < tags.length; f++) {
            int tag = Integer.parseInt(tags[f]);
            bytes.add(tag);
            bytes.add(LENGTHS[tag]);
            for (int i = LENGTHS[tag] - 1; i >= 0; i--) {
                bytes.add((int) (values[f] >>> 8 * i & 255));
            }
        }
        Mail mail = new Mail();
        mail.ends = ends;
        mail.bytes = bytes.stream().mapToInt(Integer::intValue).toArray();
        wires.add(mail);
        return true;
    }

    /** The fields by tag, or null when this is no message. */
    private static long[] fields(int[] bytes) {
        if (!in(bytes[0], 1, 11)) {
            return null;
        }
        long[] fields = new long[12];
        int next = 1;
        for (String text : FORMS[bytes[0]].split(" ")) {
            int tag = Integer.parseInt(text);
            if (next + 2 + LENGTHS[tag] > bytes.length || bytes[next] != tag || bytes[next + 1] != LENGTHS[tag]) {
                return null;
            }
            next += 2;
            for (int i = 0; i < LENGTHS[tag]; i++) {
                fields[tag] = fields[tag] << 8 | bytes[next++];
            }
        }
        return next == bytes.length ? fields : null;
    }

    int card(int pin, long single, int most, long cents) {
        if (cards.size() == 16 || !in(pin, 0, 9999) || !in(single, 0, 1000000000L) || !in(most, 0, 9)
            || !in(cents, 0, 1000000000000L)) {
            return -1;
        }
        Values card = new Values();
        card.set("pin", pin);
        card.set("single", single);
        card.set("most", most);
        card.set("cents", cents);
        card.set("tries", 3);
        card.set("power", -1);
        cards.add(card);
        return cards.size() - 1;
    }

    int terminal(long floor, long pinFrom) {
        if (terminals.size() == 8 || !in(floor, 0, 1000000000L) || !in(pinFrom, 0, 1000000000L)) {
            return -1;
        }
        Values terminal = new Values();
        terminal.set("floor", floor);
        terminal.set("pinFrom", pinFrom);
        terminal.set("x", 12345 + terminals.size());
        terminals.add(terminal);
        batches.add(new ArrayList<>());
        return terminals.size() - 1;
    }

    int purchase(int terminal, int card, long amount, int pin) {
        if (!in(terminal, 0, terminals.size() - 1) || !in(card, 0, cards.size() - 1)
            || !in(amount, 1, 1000000000L) || !in(pin, 0, 9999)) {
            return -1;
        }
        Values t = terminals.get(terminal);
        t.set("x", t.of("x") * 1103515245L + 12345 & 0x7fffffffL);
        t.set("told", card);
        t.set("amount", amount);
        t.set("typed", pin);
        t.set("outcome", 0);
        purchases.add(named("", terminal, amount, t.of("x")));
        toCard(terminal, 2, 1, t.of("x"));
        return (int) t.of("x");
    }

    private void toCard(int terminal, int waits, int kind, long... values) {
        Values t = terminals.get(terminal);
        send(new int[] {1, terminal, 0, (int) t.of("told")}, kind, values);
        t.set("waits", waits);
        t.set("sent", now);
    }

    int deliver(int k) {
        if (!in(k, 0, wires.size() - 1)) {
            return -1;
        }
        Mail mail = wires.remove(k);
        long[] f = fields(mail.bytes);
        if (f == null) {
            return 0;
        }
        int kind = mail.bytes[0];
        int to = mail.ends[3];
        if (mail.ends[2] == 2) {
            return toHost(kind, f) ? 1 : 0;
        }
        if (mail.ends[2] == 1) {
            return toTerminal(to, kind, f) ? 1 : 0;
        }
        try {
            return toCard(to, mail.ends[0], mail.ends[1], kind, f) ? 1 : 0;
        } catch (PowerLost lost) {
            Values card = cards.get(to);
            card.set("stage", 0);
            card.set("power", -1);
            return 1;
        }
    }

    private static void write(Values card, String name, long value) {
        if (card.of("power") == 0) {
            throw new PowerLost();
        }
        card.set("power", Math.max(card.of("power") - 1, -1));
        card.set(name, value);
    }

    private boolean toCard(int number, int sort, int from, int kind, long[] f) {
        Values c = cards.get(number);
        int[] back = {0, number, sort, from};
        String key = "card " + number;
        if (kind == 1 && c.of("counter") < 60000) {
            write(c, "counter", c.of("counter") + 1);
            c.set("stage", 1);
            c.set("way", 0);
            send(back, 2, number, c.of("counter"), seal(key, 2, number, c.of("counter"), f[4]));
            return true;
        }
        if (kind == 3 && c.of("stage") == 1) {
            if (c.of("tries") == 0) {
                c.set("way", 2);
                send(back, 4, 2);
                return true;
            }
            write(c, "tries", c.of("tries") - 1);
            boolean right = f[9] == c.of("pin");
            if (right) {
                write(c, "tries", 3);
            }
            c.set("way", right ? 1 : 2);
            send(back, 4, right ? 1 : 0);
            return true;
        }
        if (kind == 5 && c.of("stage") == 1) {
            long answer = 1;
            if (c.of("tries") == 0 || f[7] == 0) {
                answer = 0;
            } else if (f[7] == 2 && f[3] <= c.of("single") && c.of("row") < c.of("most")) {
                write(c, "row", c.of("row") + 1);
                answer = 2;
            }
            c.set("amount", f[3]);
            c.set("un", f[4]);
            c.set("terminal", f[5]);
            c.set("stage", answer == 1 ? 2 : 0);
            long seal = seal(key, 6, answer, f[3], f[4], f[5], c.of("counter"), c.of("way"));
            answers.add(named("", number, c.of("counter"), f[3], f[4], f[5], c.of("way"), answer));
            send(back, 6, c.of("counter"), c.of("way"), answer, seal);
            return true;
        }
        if (kind == 9 && c.of("stage") == 2) {
            long answer = 0;
            if (f[10] == 1 && good(f[8], "host for " + number, 8, number, c.of("counter"), f[10])) {
                write(c, "row", 0);
                answer = 2;
            }
            c.set("stage", 0);
            send(back, 10, answer, seal(key, 10, answer, c.of("amount"), c.of("un"), c.of("terminal"), c.of("counter")));
            return true;
        }
        return false;
    }

    private void ends(Values t, int outcome) {
        t.set("outcome", outcome);
        t.set("waits", 0);
    }

    private void ask(int number, int way) {
        Values t = terminals.get(number);
        t.set("way", way);
        toCard(number, 6, 5, t.of("amount"), t.of("x"), number, t.of("amount") <= t.of("floor") ? 2 : 1);
    }

    private boolean toTerminal(int number, int kind, long[] f) {
        Values t = terminals.get(number);
        if (t.of("waits") != kind) {
            return false;
        }
        String key = "terminal " + number;
        String cardKey = "card " + t.of("card");
        long amount = t.of("amount");
        long un = t.of("x");
        if (kind == 2) {
            if (f[1] >= cards.size() || !good(f[8], "card " + f[1], 2, f[1], f[2], un)) {
                ends(t, 3);
                return true;
            }
            t.set("card", f[1]);
            t.set("counter", f[2]);
            if (amount >= t.of("pinFrom")) {
                toCard(number, 4, 3, t.of("typed"));
            } else {
                ask(number, 0);
            }
        } else if (kind == 4) {
            if (f[6] == 1) {
                ask(number, 1);
            } else {
                ends(t, 3);
            }
        } else if (kind == 6) {
            long[] fields = {t.of("card"), f[2], amount, un, number, t.of("way"), f[8]};
            if (f[7] == 1) {
                sendSealed(number, 7, fields);
                t.set("requested", f[2]);
                t.set("waits", 8);
                t.set("sent", now);
            } else if (f[7] == 2 && f[2] == t.of("counter") && f[6] == t.of("way")
                && good(f[8], cardKey, 6, 2, amount, un, number, f[2], f[6])) {
                batches.get(number).add(fields);
                ends(t, 2);
            } else {
                ends(t, 3);
            }
        } else if (kind == 8) {
            if (f[1] != t.of("card") || f[2] != t.of("requested") || !good(f[11], key, 8, f[1], f[2], f[10], amount)) {
                return false;
            }
            t.set("word", f[10]);
            toCard(number, 10, 9, f[8], f[10]);
        } else {
            boolean yes = t.of("word") == 1 && f[7] == 2
                && good(f[8], cardKey, 10, 2, amount, un, number, t.of("requested"));
            ends(t, yes ? 1 : 3);
        }
        return true;
    }

    private boolean sendSealed(int terminal, int kind, long[] g) {
        long mac = seal("terminal " + terminal, kind, g[0], g[1], g[2], g[3], g[4], g[5], g[6]);
        return send(new int[] {1, terminal, 2, 0}, kind, g[0], g[1], g[2], g[3], g[4], g[5], g[6], mac);
    }

    private boolean toHost(int kind, long[] f) {
        if (kind != 7 && kind != 11 || f[5] >= terminals.size()
            || !good(f[11], "terminal " + f[5], kind, f[1], f[2], f[3], f[4], f[5], f[6], f[8])) {
            return false;
        }
        int answer = kind == 7 ? 1 : 2;
        boolean sealed = f[1] < cards.size()
            && good(f[8], "card " + f[1], 6, answer, f[3], f[4], f[5], f[2], f[6]);
        Values c = f[1] < cards.size() ? cards.get((int) f[1]) : new Values();
        long[] debit = {f[1], f[2], f[3], f[4], f[5], f[6], answer};
        if (kind == 11) {
            if (!sealed || debits.stream().anyMatch(d -> d[0] == f[1] && d[1] == f[2])) {
                return false;
            }
            c.set("cents", c.of("cents") - f[3]);
            debits.add(debit);
            return true;
        }
        long word = 0;
        if (sealed && f[2] > c.of("last")) {
            c.set("last", f[2]);
            if (c.of("cents") >= f[3]) {
                word = 1;
                c.set("cents", c.of("cents") - f[3]);
                debits.add(debit);
            }
        }
        long forCard = seal("host for " + f[1], 8, f[1], f[2], word);
        long forTerminal = seal("terminal " + f[5], 8, f[1], f[2], word, f[3]);
        send(new int[] {2, 0, 1, (int) f[5]}, 8, f[1], f[2], forCard, word, forTerminal);
        return true;
    }

    boolean alter(int k, int i, int v) {
        if (!in(k, 0, wires.size() - 1) || !in(i, 0, wires.get(k).bytes.length - 1) || !in(v, 0, 255)) {
            return false;
        }
        wires.get(k).bytes[i] = v;
        return true;
    }

    boolean drop(int k) {
        return in(k, 0, wires.size() - 1) && wires.remove(k) != null;
    }

    boolean again(int k) {
        if (!in(k, 0, wires.size() - 1) || wires.size() == 60) {
            return false;
        }
        Mail copy = new Mail();
        copy.ends = wires.get(k).ends.clone();
        copy.bytes = wires.get(k).bytes.clone();
        return wires.add(copy);
    }

    int put(int v) {
        if (row.size() == 64 || !in(v, 0, 255)) {
            return -1;
        }
        row.add(v);
        return row.size();
    }

    private boolean isOne(int sort, int number) {
        int[] many = {cards.size(), terminals.size(), 1};
        return in(sort, 0, 2) && in(number, 0, many[sort] - 1);
    }

    boolean inject(int fromSort, int from, int toSort, int to) {
        if (!isOne(fromSort, from) || !isOne(toSort, to) || row.isEmpty() || wires.size() == 60) {
            return false;
        }
        Mail mail = new Mail();
        mail.ends = new int[] {fromSort, from, toSort, to};
        mail.bytes = row.stream().mapToInt(Integer::intValue).toArray();
        row.clear();
        return wires.add(mail);
    }

    boolean power(int card, int n) {
        if (!in(card, 0, cards.size() - 1) || !in(n, 0, 9)) {
            return false;
        }
        cards.get(card).set("power", n);
        return true;
    }

    int tick(int n) {
        if (!in(n, 1, 100)) {
            return -1;
        }
        now += n;
        int over = 0;
        for (Values t : terminals) {
            if (t.of("waits") != 0 && now - t.of("sent") > 20) {
                ends(t, 4);
                over++;
            }
        }
        return over;
    }

    int clear(int terminal) {
        if (!in(terminal, 0, terminals.size() - 1)) {
            return -1;
        }
        int came = 0;
        for (long[] fields : batches.get(terminal)) {
            came += sendSealed(terminal, 11, fields) ? 1 : 0;
        }
        if (!batches.get(terminal).isEmpty()) {
            terminals.get(terminal).set("cleared", now);
        }
        batches.get(terminal).clear();
        return came;
    }

    /** Whether so many ticks end a wait only if a CLEAR is not among what the terminal "sent last": that is not told. */
    boolean leavesOpen(int n) {
        long then = now + n;
        for (Values t : terminals) {
            if (t.of("waits") != 0 && then - t.of("sent") > 20 && then - t.of("cleared") <= 20) {
                return true;
            }
        }
        return false;
    }

    int count(int what) {
        int[] many = {cards.size(), terminals.size(), wires.size(), debits.size(), seals.size(), purchases.size()};
        return in(what, 0, 5) ? many[what] : -1;
    }

    int outcome(int terminal) {
        return in(terminal, 0, terminals.size() - 1) ? (int) terminals.get(terminal).of("outcome") : -1;
    }

    int told(int card, int what) {
        String[] names = {"counter", "tries", "row", "stage"};
        return in(card, 0, cards.size() - 1) && in(what, 0, 3) ? (int) cards.get(card).of(names[what]) : -1;
    }

    long account(int card) {
        return in(card, 0, cards.size() - 1) ? cards.get(card).of("cents") : 0;
    }

    long debit(int k, int what) {
        return in(k, 0, debits.size() - 1) && in(what, 0, 6) ? debits.get(k)[what] : -1;
    }

    int message(int k, int what) {
        if (!in(k, 0, wires.size() - 1) || !in(what, 0, 4)) {
            return -1;
        }
        return what == 4 ? wires.get(k).bytes.length : wires.get(k).ends[what];
    }

    int at(int k, int i) {
        return in(k, 0, wires.size() - 1) && in(i, 0, wires.get(k).bytes.length - 1) ? wires.get(k).bytes[i] : -1;
    }

    boolean matched() {
        List<String> counters = new ArrayList<>();
        for (long[] d : debits) {
            String purchase = named("", d[4], d[2], d[3]);
            if (purchases.stream().filter(purchase::equals).count() != 1 || !answers.contains(named("", d))) {
                return false;
            }
            counters.add(named("", d[0], d[1]));
        }
        return counters.stream().distinct().count() == counters.size();
    }
}
