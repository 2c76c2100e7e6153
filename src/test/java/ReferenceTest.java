import java.util.ArrayList;
import java.util.Arrays;
import java.util.Comparator;
import java.util.List;
import java.util.NoSuchElementException;
import java.util.Random;
import java.util.regex.Matcher;
import java.util.regex.Pattern;

/**
 * Random runs of calls, each answer held against a second, plain program: it tries every plan of blocks and every
 * order, and lets each go, instead of filling a table.
 */
public final class ReferenceTest {
    private static int failures = 0;
    private static long calls = 0;

    public static void main(String[] args) {
        for (int seed = 0; seed < 9000; seed++) {
            new Run(seed).play();
        }
        for (int seed = 0; seed < 12; seed++) {
            largeSearch(seed);
        }
        for (int seed = 0; seed < 250; seed++) {
            largeSplit(seed);
        }
        for (int seed = 0; seed < 30000; seed++) {
            likeSplit(seed);
        }
        for (int seed = 0; seed < 6; seed++) {
            lastOrder(seed);
        }
        System.out.println(calls + " calls held against the reference, " + failures + " wrong");
        if (failures > 0) {
            System.exit(1);
        }
    }

    private static void same(String where, String call, long got, long due) {
        calls++;
        if (got != due) {
            failures++;
            if (failures <= 40) {
                System.out.println(where + ": " + call + " answered " + got + ", due is " + due);
            }
        }
    }

    private static void settle(Random random, TruckWing x, Plain y, int customers) {
        for (int k = 0; k < customers; k++) {
            int[] f = {random.nextInt(20), random.nextInt(20), random.nextInt(8), random.nextInt(8),
                random.nextInt(70)};
            x.customer(f[0], f[1], f[2], f[3], f[4]);
            y.customer(f);
        }
        int[][] some = {{0, 1 + random.nextInt(4)}, {1, 1 + random.nextInt(3)}, {2, random.nextInt(7) - 3},
            {3, random.nextInt(7) - 3}, {5, 20 + random.nextInt(100)}, {6, random.nextInt(3)}, {7, random.nextInt(4)},
            {8, random.nextInt(3)}, {9, random.nextInt(2)}};
        for (int[] s : some) {
            x.set(s[0], s[1]);
            y.set(s[0], s[1]);
        }
    }

    private static void largeSearch(int seed) {
        Random random = new Random(9000 + seed);
        TruckWing x = new TruckWing();
        Plain y = new Plain();
        settle(random, x, y, 6);
        int[] best = y.best(y.settings[8]);
        int[] alone = y.best(0);
        same("large search " + seed, "best()", x.best(), best[0]);
        same("large search " + seed, "bestOrder()", x.bestOrder(), best[1]);
        same("large search " + seed, "alone(0)", x.alone(0), alone[0]);
        same("large search " + seed, "alone(1)", x.alone(1), alone[1]);
    }

    private static void largeSplit(int seed) {
        Random random = new Random(7000 + seed);
        TruckWing x = new TruckWing();
        Plain y = new Plain();
        int n = 7 + random.nextInt(2);
        settle(random, x, y, n);
        int order = someOrder(random, n);
        String where = "large split " + seed + " of " + order;
        same(where, "split", x.split(order), y.split(order));
        same(where, "take", x.take(order), y.take(order));
        same(where, "count(1)", x.count(1), y.row.size() + 2);
        for (int k = 0; k < y.sorties.size(); k++) {
            for (int what = 0; what < 4; what++) {
                same(where, "sortie(" + k + ", " + what + ")", x.sortie(k, what), y.sorties.get(k)[what]);
            }
        }
        for (int index = 0; index < y.row.size() + 2; index++) {
            same(where, "stop(" + index + ", 0)", x.stop(index, 0), y.stop(index, 0));
        }
        same(where, "wrong", x.wrong(), 0);
        same(where, "ends", x.ends(), x.split(order));
        if (n > 7) {
            same(where, "best()", x.best(), -1);
            same(where, "bestOrder()", x.bestOrder(), -1);
            same(where, "alone(0)", x.alone(0), -1);
        }
    }

    /** With seven customers: of every order its split; then renumbered, so that the best order is the very last. */
    private static void lastOrder(int seed) {
        Random random = new Random(600 + seed);
        int[][] facts = new int[8][5];
        for (int c = 1; c <= 7; c++) {
            facts[c] = new int[] {random.nextInt(51), random.nextInt(51), random.nextInt(9), random.nextInt(9), 0};
        }
        int[] same = {0, 1, 2, 3, 4, 5, 6, 7};
        TruckWing x = windy(facts, same);
        int least = Integer.MAX_VALUE;
        int first = 0;
        int several = 0;
        int asked = 0;
        for (int order : allOrders()) {
            asked++;
            x = asked % 400 == 0 ? windy(facts, same) : x;
            int end = x.split(order);
            if (end < least) {
                least = end;
                first = order;
                several = 0;
            }
            several += end == least ? 1 : 0;
        }
        String where = "last order " + seed;
        same(where, "best()", x.best(), least);
        same(where, "bestOrder()", x.bestOrder(), first);
        if (several == 1) {
            int[] old = new int[8];
            for (int c = 1; c <= 7; c++) {
                old[c] = first % 10;
                first /= 10;
            }
            TruckWing y = windy(facts, old);
            same(where, "best() renumbered", y.best(), least);
            same(where, "bestOrder() renumbered", y.bestOrder(), 7654321);
        }
    }

    /** All ORDERS of seven, the first by CUSTOMERS first. */
    private static List<Integer> allOrders() {
        List<Integer> orders = new ArrayList<>(List.of(0));
        for (int digits = 0; digits < 7; digits++) {
            List<Integer> longer = new ArrayList<>();
            for (int order : orders) {
                for (int c = 1; c <= 7; c++) {
                    if (Integer.toString(order).indexOf('0' + c) < 0) {
                        longer.add(order * 10 + c);
                    }
                }
            }
            orders = longer;
        }
        return orders;
    }

    private static TruckWing windy(int[][] facts, int[] old) {
        TruckWing x = new TruckWing();
        for (int c = 1; c <= 7; c++) {
            int[] f = facts[old[c]];
            x.customer(f[0], f[1], f[2], f[3], f[4]);
        }
        x.set(2, 2);
        x.set(3, -1);
        x.set(5, 200);
        return x;
    }

    /** Small numbers, so that many plans are alike and only the order among them tells. */
    private static void likeSplit(int seed) {
        Random random = new Random(40000 + seed);
        TruckWing x = new TruckWing();
        Plain y = new Plain();
        int n = 2 + random.nextInt(4);
        int spread = 1 + random.nextInt(3);
        for (int k = 0; k < n; k++) {
            int[] f = {random.nextInt(spread), random.nextInt(spread), random.nextInt(4), random.nextInt(3), 0};
            x.customer(f[0], f[1], f[2], f[3], f[4]);
            y.customer(f);
        }
        int[][] some = {{0, 1 + random.nextInt(2)}, {1, 1 + random.nextInt(2)}, {5, 2 + random.nextInt(8)},
            {6, random.nextInt(2)}, {7, random.nextInt(3)}, {8, 1 + random.nextInt(2)}, {9, random.nextInt(2)}};
        for (int[] s : some) {
            x.set(s[0], s[1]);
            y.set(s[0], s[1]);
        }
        int order = someOrder(random, n);
        String where = "like split " + seed + " of " + order;
        same(where, "take", x.take(order), y.take(order));
        same(where, "ends", x.ends(), y.ends());
        for (int k = 0; k < y.sorties.size(); k++) {
            for (int what = 0; what < 4; what++) {
                same(where, "sortie(" + k + ", " + what + ")", x.sortie(k, what), y.sorties.get(k)[what]);
            }
        }
    }

    private static int someOrder(Random random, int n) {
        List<Integer> left = new ArrayList<>();
        for (int c = 1; c <= n; c++) {
            left.add(c);
        }
        int order = 0;
        while (!left.isEmpty()) {
            order = order * 10 + left.remove(random.nextInt(left.size()));
        }
        return order;
    }

    /** One run of random calls on a new object. */
    private static final class Run {
        /** An object has 512 calls; this leaves room for the dearest step. */
        private static final int MOST_CALLS = 440;

        private final Random random;
        private final long begin = calls;
        private final int mostCustomers;
        private final int size;
        private final String where;
        private final TruckWing x = new TruckWing();
        private final Plain y = new Plain();

        Run(int seed) {
            this.random = new Random(seed);
            this.where = "run " + seed;
            this.mostCustomers = seed % 5 == 0 ? 9 : 2 + seed % 4;
            this.size = seed % 3 == 0 ? 51 : 4 + seed % 9;
        }

        void play() {
            for (int k = random.nextInt(mostCustomers + 1); k > 0; k--) {
                customer(where + " beginning");
            }
            for (int k = 0; k < MOST_CALLS && !isSpent(); k++) {
                step(k);
            }
        }

        private boolean isSpent() {
            return calls - begin >= MOST_CALLS;
        }

        /** Of the many questions on one plan only some are asked. */
        private boolean isSkipped() {
            return isSpent() || random.nextBoolean();
        }

        private int near(int least, int most) {
            int odd = random.nextInt(30);
            if (odd == 0) {
                return least - 1;
            }
            if (odd == 1) {
                return most + 1;
            }
            return least + random.nextInt(most - least + 1);
        }

        private void step(int k) {
            int n = y.places.size() - 1;
            String at = where + " call " + k;
            switch (random.nextInt(30)) {
                case 0: case 1:
                    if (n < mostCustomers) {
                        customer(at);
                    }
                    break;
                case 2:
                    if (random.nextInt(6) == 0) {
                        same(at, "drop()", x.drop(), y.drop());
                    }
                    break;
                case 3: case 4:
                    set(at);
                    break;
                case 5: case 6: case 7: {
                    int c = near(1, Math.max(1, n));
                    same(at, "go(" + c + ")", x.go(c), y.go(c));
                    break;
                }
                case 8: case 9: case 10:
                    fly(at);
                    break;
                case 11: {
                    boolean row = random.nextBoolean();
                    same(at, "undo(" + row + ")", x.undo(row), y.undo(row));
                    break;
                }
                case 12:
                    if (random.nextInt(4) == 0) {
                        x.clear();
                        y.clear();
                    }
                    break;
                case 13: case 14:
                    text(at);
                    break;
                case 15: case 16:
                    order(at, n);
                    break;
                case 17:
                    search(at, n);
                    break;
                case 18: case 19:
                    rightPlan(at, n);
                    break;
                default:
                    ask(at, n);
                    break;
            }
        }

        private void customer(String at) {
            int[] f = {near(0, size - 1), near(0, size - 1), near(0, 30), near(0, 30), near(0, 99)};
            same(at, "customer" + Arrays.toString(f), x.customer(f[0], f[1], f[2], f[3], f[4]), y.customer(f));
        }

        private void set(String at) {
            int s = near(0, 9);
            int v = s >= 0 && s <= 9 ? near(Plain.LOW[s], Plain.HIGH[s]) : 1;
            same(at, "set(" + s + ", " + v + ")", x.set(s, v) ? 1 : 0, y.set(s, v) ? 1 : 0);
        }

        private void fly(String at) {
            int n = y.places.size() - 1;
            int f = near(0, 1);
            int from = random.nextInt(4) == 0 ? near(0, 9) : random.nextInt(y.row.size() + 1);
            int c = near(1, Math.max(1, n));
            int to = random.nextInt(4) == 0 ? near(0, 9) : from + 1;
            same(at, "fly(" + f + ", " + from + ", " + c + ", " + to + ")", x.fly(f, from, c, to),
                    y.fly(f, from, c, to));
        }

        /** A plan that is likely right, or nearly so: else hardly a random one would have times. */
        private void rightPlan(String at, int n) {
            x.clear();
            y.clear();
            List<Integer> vans = new ArrayList<>();
            List<Integer> flown = new ArrayList<>();
            int order = n == 0 ? 0 : someOrder(random, n);
            for (int rest = order; rest > 0; rest /= 10) {
                (random.nextInt(3) == 0 ? flown : vans).add(rest % 10);
            }
            for (int c : vans) {
                same(at, "go(" + c + ")", x.go(c), y.go(c));
            }
            int[] free = {0, 0};
            for (int c : flown) {
                int f = random.nextInt(2);
                int from = Math.min(free[f] + random.nextInt(2), vans.size());
                int to = Math.min(from + 1 + random.nextInt(2), vans.size() + 1);
                same(at, "fly(" + f + ", " + from + ", " + c + ", " + to + ")", x.fly(f, from, c, to),
                        y.fly(f, from, c, to));
                free[f] = to;
            }
            askPlan(at);
        }

        private void askPlan(String at) {
            same(at, "wrong()", x.wrong(), y.wrong());
            same(at, "ends()", x.ends(), y.ends());
            for (int index = -1; index <= y.row.size() + 2; index++) {
                for (int what = -1; what <= 5; what++) {
                    if (!isSkipped()) {
                        same(at, "stop(" + index + ", " + what + ")", x.stop(index, what), y.stop(index, what));
                    }
                }
            }
            for (int k = -1; k <= y.sorties.size(); k++) {
                for (int what = -1; what <= 4; what++) {
                    if (!isSkipped()) {
                        same(at, "flown(" + k + ", " + what + ")", x.flown(k, what), y.flown(k, what));
                    }
                }
            }
            int events = y.event(-1, 0);
            for (int k = -2; k <= events; k++) {
                for (int what = -1; what <= 4; what++) {
                    if (!isSkipped()) {
                        same(at, "event(" + k + ", " + what + ")", x.event(k, what), y.event(k, what));
                    }
                }
            }
            for (int what = -1; what <= 4; what++) {
                same(at, "sum(" + what + ")", x.sum(what), y.sum(what));
            }
        }

        private void order(String at, int n) {
            int order = random.nextInt(8) == 0 ? random.nextInt(200) - 20 : n == 0 ? 0 : someOrder(random, n);
            switch (random.nextInt(4)) {
                case 0:
                    same(at, "take(" + order + ")", x.take(order), y.take(order));
                    askPlan(at);
                    break;
                case 1: {
                    int w = random.nextInt(12) - 2;
                    same(at, "wind(" + order + ", " + w + ")", x.wind(order, w), y.wind(order, w));
                    break;
                }
                default:
                    same(at, "split(" + order + ")", x.split(order), y.split(order));
                    break;
            }
        }

        private void search(String at, int n) {
            if (n > 7) {
                same(at, "best()", x.best(), -1);
                same(at, "bestOrder()", x.bestOrder(), -1);
                same(at, "alone(0)", x.alone(0), -1);
                return;
            }
            if (n > 4) {
                return;
            }
            int[] best = y.best(y.settings[8]);
            int[] alone = y.best(0);
            same(at, "best()", x.best(), best[0]);
            same(at, "bestOrder()", x.bestOrder(), best[1]);
            same(at, "alone(0)", x.alone(0), alone[0]);
            same(at, "alone(1)", x.alone(1), alone[1]);
            same(at, "alone(2)", x.alone(2), -1);
        }

        private void ask(String at, int n) {
            int what = random.nextInt(24) - 2;
            same(at, "count(" + what + ")", x.count(what), y.count(what));
            int from = random.nextInt(n + 3) - 1;
            int to = random.nextInt(n + 3) - 1;
            int fact = random.nextInt(7) - 1;
            boolean flies = random.nextBoolean();
            same(at, "place(" + from + ", " + fact + ")", x.place(from, fact), y.place(from, fact));
            same(at, "way(" + from + ", " + to + ", " + flies + ")", x.way(from, to, flies), y.way(from, to, flies));
            int k = random.nextInt(10) - 1;
            int part = random.nextInt(6) - 1;
            long got;
            try {
                got = x.sortie(k, part);
            } catch (NoSuchElementException e) {
                got = -77;
            }
            boolean there = k >= 0 && k < y.sorties.size() && part >= 0 && part < 4;
            same(at, "sortie(" + k + ", " + part + ")", got, there ? y.sorties.get(k)[part] : -77);
            same(at, "wrong()", x.wrong(), y.wrong());
            same(at, "ends()", x.ends(), y.ends());
            same(at, "fault()", x.fault(), y.fault);
        }

        private void text(String at) {
            StringBuilder text = new StringBuilder();
            int statements = random.nextInt(6);
            for (int k = 0; k < statements; k++) {
                statement(text);
            }
            spoil(text);
            String whole = text.length() > 300 ? text.substring(0, 300) : text.toString();
            tell(at, whole);
        }

        private void tell(String at, String whole) {
            boolean feeds = true;
            for (int first = 0; first < whole.length() && feeds; first += 20) {
                int[] five = new int[5];
                for (int k = 0; k < 20; k++) {
                    int c = first + k < whole.length() ? whole.charAt(first + k) : 'x';
                    five[k / 4] = five[k / 4] << 8 | c;
                }
                same(at, "feed", x.feed(five[0], five[1], five[2], five[3], five[4]), y.feed(five));
            }
            same(at, "count(3)", x.count(3), y.count(3));
            for (int n : new int[] {-1, 301, whole.length()}) {
                same(at, "end(" + n + ")", x.end(n) ? 1 : 0, y.end(n) ? 1 : 0);
            }
            String shown = " of [" + y.tape.toString().replace('\n', '~') + "]";
            same(at, "tell()" + shown, x.tell(), y.tell());
            same(at, "fault()" + shown, x.fault(), y.fault);
            for (int what = 0; what < 20; what++) {
                same(at, "count(" + what + ")" + shown, x.count(what), y.count(what));
            }
        }

        private void statement(StringBuilder text) {
            int n = y.places.size() - 1;
            switch (random.nextInt(5)) {
                case 0:
                    word(text, "depot", near(0, size - 1), near(0, size - 1));
                    break;
                case 1:
                    if (n < mostCustomers) {
                        word(text, "to", near(0, size - 1), near(0, size - 1), near(0, 30), near(0, 30), near(0, 99));
                    }
                    break;
                case 2: {
                    int s = near(0, 9);
                    word(text, "set", s, s < 0 || s > 9 ? 1 : near(Plain.LOW[s], Plain.HIGH[s]));
                    break;
                }
                case 3: {
                    int[] row = new int[random.nextInt(random.nextInt(5) == 0 ? 10 : 4)];
                    for (int k = 0; k < row.length; k++) {
                        row[k] = near(1, Math.max(1, n));
                    }
                    word(text, "row", row);
                    break;
                }
                default:
                    for (int k = random.nextInt(random.nextInt(8) == 0 ? 9 : 3); k >= 0; k--) {
                        word(text, "fly", near(0, 1), near(0, 9), near(1, Math.max(1, n)), near(0, 9));
                    }
                    break;
            }
        }

        private void word(StringBuilder text, String word, int... numbers) {
            blanks(text, 0);
            text.append(word);
            blanks(text, 0);
            for (int number : numbers) {
                blanks(text, number >= 0 ? 1 : 0);
                text.append(random.nextInt(20) == 0 && number >= 0 && number < 10 ? "00" + number : "" + number);
            }
            blanks(text, 0);
            text.append(';');
        }

        private void blanks(StringBuilder text, int least) {
            int many = random.nextInt(10) == 0 ? 2 : 0;
            for (int k = 0; k < Math.max(many, least); k++) {
                text.append(random.nextInt(5) == 0 ? '\n' : ' ');
            }
        }

        private void spoil(StringBuilder text) {
            if (random.nextInt(3) != 0 || text.length() == 0) {
                return;
            }
            int at = random.nextInt(text.length());
            String odd = ";-0 9azt\nA\t{0\u0000\u00e9:`/";
            switch (random.nextInt(3)) {
                case 0:
                    text.setLength(at);
                    break;
                case 1:
                    text.setCharAt(at, odd.charAt(random.nextInt(odd.length())));
                    break;
                default:
                    text.insert(at, odd.charAt(random.nextInt(odd.length())));
                    break;
            }
        }
    }

    /** The second program. */
    private static final class Plain {
        static final int[] LOW = {1, 1, -3, -3, 0, 1, 0, 0, 0, 0};
        static final int[] HIGH = {9, 9, 3, 3, 99, 999, 9, 9, 2, 1};
        private static final int[] FACT_HIGH = {50, 50, 30, 30, 99};

        List<int[]> places = new ArrayList<>(List.of(new int[5]));
        int[] settings = {3, 2, 0, 0, 50, 100, 1, 1, 1, 1};
        List<Integer> row = new ArrayList<>();
        List<int[]> sorties = new ArrayList<>();
        StringBuilder tape = new StringBuilder();
        int fault = 0;

        int feed(int[] five) {
            if (tape.length() > 280) {
                return -1;
            }
            for (int v : five) {
                for (byte b : java.nio.ByteBuffer.allocate(4).putInt(v).array()) {
                    tape.append((char) (b & 255));
                }
            }
            return tape.length();
        }

        boolean end(int n) {
            if (n < 0 || n > tape.length()) {
                return false;
            }
            tape.setLength(n);
            return true;
        }

        int customer(int[] f) {
            for (int k = 0; k < 5; k++) {
                if (f[k] < 0 || f[k] > FACT_HIGH[k]) {
                    return -1;
                }
            }
            if (places.size() == 9) {
                return -2;
            }
            places.add(f.clone());
            return places.size() - 1;
        }

        int drop() {
            if (places.size() == 1) {
                return -1;
            }
            places.remove(places.size() - 1);
            clear();
            return places.size() - 1;
        }

        boolean set(int s, int v) {
            if (s < 0 || s > 9 || v < LOW[s] || v > HIGH[s] || settings[s] == v) {
                return false;
            }
            settings[s] = v;
            return true;
        }

        boolean isCustomer(int c) {
            return c >= 1 && c < places.size();
        }

        int go(int c) {
            if (!isCustomer(c)) {
                return -1;
            }
            if (row.size() == 8) {
                return -2;
            }
            row.add(c);
            return row.size() + 2;
        }

        int fly(int f, int from, int c, int at) {
            if (f < 0 || f > 1 || from < 0 || from > 9 || !isCustomer(c) || at < 0 || at > 9) {
                return -1;
            }
            if (sorties.size() == 8) {
                return -2;
            }
            sorties.add(new int[] {f, from, c, at});
            return sorties.size() - 1;
        }

        int undo(boolean ofRow) {
            List<?> list = ofRow ? row : sorties;
            if (list.isEmpty()) {
                return -1;
            }
            list.remove(list.size() - 1);
            return list.size();
        }

        void clear() {
            row.clear();
            sorties.clear();
        }

        int count(int what) {
            int[] all = {places.size() - 1, row.size() + 2, sorties.size(), tape.length()};
            if (what >= 0 && what < 4) {
                return all[what];
            }
            return what >= 10 && what <= 19 ? settings[what - 10] : -99;
        }

        int place(int p, int what) {
            return p < 0 || p >= places.size() || what < 0 || what > 4 ? -1 : places.get(p)[what];
        }

        int way(int from, int to, boolean flies) {
            if (from < 0 || to < 0 || from >= places.size() || to >= places.size()) {
                return -1;
            }
            int dx = places.get(to)[0] - places.get(from)[0];
            int dy = places.get(to)[1] - places.get(from)[1];
            if (!flies) {
                return settings[0] * (Math.abs(dx) + Math.abs(dy));
            }
            int minutes = settings[1] * Math.max(Math.abs(dx), Math.abs(dy)) - settings[2] * dx - settings[3] * dy;
            return from == to ? 0 : minutes < 1 ? 1 : minutes;
        }

        // ---- texts

        private static final Pattern TOKEN = Pattern.compile("[ \n]*([a-z]+|-?[0-9]+|;|$|[\\s\\S])");

        int tell() {
            List<int[]> oldPlaces = new ArrayList<>(places);
            int[] oldSettings = settings.clone();
            int[] oldDepot = places.get(0).clone();
            List<Integer> oldRow = new ArrayList<>(row);
            List<int[]> oldSorties = new ArrayList<>(sorties);
            String text = tape.toString();
            tape.setLength(0);
            int told = tellAll(text);
            if (told < 0) {
                places = oldPlaces;
                places.set(0, oldDepot);
                settings = oldSettings;
                row = oldRow;
                sorties = oldSorties;
            }
            return told;
        }

        private int tellAll(String text) {
            List<String> tokens = new ArrayList<>();
            List<Integer> starts = new ArrayList<>();
            Matcher m = TOKEN.matcher(text);
            int at = 0;
            while (at < text.length() && m.find(at) && !m.group(1).isEmpty()) {
                tokens.add(m.group(1));
                starts.add(m.start(1));
                at = m.end();
            }
            tokens.add("");
            starts.add(text.length());
            int statements = 0;
            int k = 0;
            while (!tokens.get(k).isEmpty()) {
                List<Integer> numbers = new ArrayList<>();
                String word = tokens.get(k);
                int needs = word.equals("depot") || word.equals("set") ? 2 : word.equals("to") ? 5
                        : word.equals("fly") ? 4 : word.equals("row") ? 1000 : -1;
                if (needs < 0) {
                    return faultOf(1, starts.get(k));
                }
                if (word.equals("to") && places.size() == 9 || word.equals("fly") && sorties.size() == 8) {
                    return faultOf(3, starts.get(k));
                }
                k++;
                while (numbers.size() < needs && tokens.get(k).matches("-?[0-9]{1,3}")) {
                    int v = Integer.parseInt(tokens.get(k));
                    if (!mayBe(word, numbers, v)) {
                        return faultOf(2, starts.get(k));
                    }
                    numbers.add(v);
                    if (word.equals("row") && numbers.size() == 9) {
                        return faultOf(3, starts.get(k));
                    }
                    k++;
                }
                boolean enough = numbers.size() == needs || needs == 1000;
                if (!enough || !tokens.get(k).equals(";")) {
                    return faultOf(1, starts.get(k));
                }
                k++;
                statements++;
                apply(word, numbers);
            }
            fault = 0;
            return statements;
        }

        private int faultOf(int kind, int place) {
            fault = kind + 8 * place;
            return -1;
        }

        private boolean mayBe(String word, List<Integer> ahead, int v) {
            int slot = ahead.size();
            switch (word) {
                case "depot": case "to":
                    return v >= 0 && v <= FACT_HIGH[slot];
                case "set":
                    return slot == 0 ? v >= 0 && v <= 9 : v >= LOW[ahead.get(0)] && v <= HIGH[ahead.get(0)];
                case "row":
                    return isCustomer(v);
                default:
                    return slot == 0 ? v == 0 || v == 1 : slot == 2 ? isCustomer(v) : v >= 0 && v <= 9;
            }
        }

        private void apply(String word, List<Integer> v) {
            switch (word) {
                case "depot":
                    places.set(0, new int[] {v.get(0), v.get(1), 0, 0, 0});
                    break;
                case "to":
                    places.add(new int[] {v.get(0), v.get(1), v.get(2), v.get(3), v.get(4)});
                    break;
                case "set":
                    settings[v.get(0)] = v.get(1);
                    break;
                case "row":
                    row = new ArrayList<>(v);
                    sorties = new ArrayList<>();
                    break;
                default:
                    sorties.add(new int[] {v.get(0), v.get(1), v.get(2), v.get(3)});
                    break;
            }
        }

        // ---- how a plan goes

        private int[][] stopTimes;
        private int[][] flownTimes;
        private List<int[]> events;

        private int stopPlace(int index) {
            return index == 0 || index == row.size() + 1 ? 0 : row.get(index - 1);
        }

        int wrong() {
            for (int k = 0; k < sorties.size(); k++) {
                int[] s = sorties.get(k);
                boolean indices = s[1] <= row.size() + 1 && s[3] <= row.size() + 1 && s[1] < s[3];
                if (!indices || s[0] > settings[8] - 1) {
                    return 1 + 16 * k;
                }
            }
            int[] times = new int[9];
            row.forEach(c -> times[c]++);
            sorties.forEach(s -> times[s[2]]++);
            for (int c = 1; c < places.size(); c++) {
                if (times[c] > 1) {
                    return 2 + 16 * c;
                }
            }
            for (int c = 1; c < places.size(); c++) {
                if (times[c] < 1) {
                    return 3 + 16 * c;
                }
            }
            for (int k = 0; k < sorties.size(); k++) {
                if (places.get(sorties.get(k)[2])[4] > settings[4]) {
                    return 4 + 16 * k;
                }
            }
            for (int k = 0; k < sorties.size(); k++) {
                for (int m = 0; m < k; m++) {
                    int[] s = sorties.get(k);
                    int[] t = sorties.get(m);
                    if (s[0] == t[0] && s[1] < t[3] && s[3] > t[1]) {
                        return 5 + 16 * k;
                    }
                }
            }
            drive();
            for (int k = 0; k < sorties.size(); k++) {
                if (flownTimes[k][2] > settings[5]) {
                    return 6 + 16 * k;
                }
            }
            return 0;
        }

        private boolean timed() {
            int w = wrong() % 16;
            return w == 0 || w == 6;
        }

        private void drive() {
            int stops = row.size() + 2;
            stopTimes = new int[stops][];
            flownTimes = new int[sorties.size()][];
            events = new ArrayList<>();
            int[] leftAt = new int[sorties.size()];
            int[] comesAt = new int[sorties.size()];
            int now = 0;
            for (int index = 0; index < stops; index++) {
                int here = stopPlace(index);
                now += index == 0 ? 0 : way(stopPlace(index - 1), here, false);
                int comes = now;
                events.add(new int[] {now, 0, here, -1});
                if (here != 0) {
                    now += places.get(here)[2];
                    events.add(new int[] {now, 1, here, -1});
                }
                List<Integer> ending = new ArrayList<>();
                List<Integer> beginning = new ArrayList<>();
                for (int k = 0; k < sorties.size(); k++) {
                    if (sorties.get(k)[3] == index) {
                        ending.add(k);
                    }
                    if (sorties.get(k)[1] == index) {
                        beginning.add(k);
                    }
                }
                ending.sort(Comparator.comparing((Integer k) -> comesAt[k]).thenComparing(k -> sorties.get(k)[0]));
                beginning.sort(Comparator.comparing(k -> sorties.get(k)[0]));
                int wait = 0;
                for (int k : ending) {
                    while (now < comesAt[k]) {
                        now++;
                        wait++;
                    }
                    int air = (settings[9] == 1 ? now : comesAt[k]) - leftAt[k];
                    flownTimes[k] = new int[] {leftAt[k], comesAt[k], air, now - comesAt[k]};
                    now += settings[7];
                    events.add(new int[] {now, 2, here, sorties.get(k)[0]});
                }
                int ready = now;
                for (int k : beginning) {
                    now += settings[6];
                    int[] s = sorties.get(k);
                    leftAt[k] = now;
                    int dropped = now + way(here, s[2], true) + places.get(s[2])[3];
                    comesAt[k] = dropped + way(s[2], stopPlace(s[3]), true);
                    events.add(new int[] {now, 3, here, s[0]});
                    events.add(new int[] {dropped, 4, s[2], s[0]});
                }
                stopTimes[index] = new int[] {here, comes, ready, now, wait};
            }
            events.sort(Arrays::compare);
        }

        int ends() {
            return timed() ? stopTimes[row.size() + 1][2] : -1;
        }

        int stop(int index, int what) {
            if (!timed() || index < 0 || index >= row.size() + 2 || what < 0 || what > 4) {
                return -1;
            }
            return stopTimes[index][what];
        }

        int flown(int k, int what) {
            return !timed() || k < 0 || k >= sorties.size() || what < 0 || what > 3 ? -1 : flownTimes[k][what];
        }

        int event(int k, int what) {
            if (!timed()) {
                return -2;
            }
            if (k == -1 && what == 0) {
                return events.size();
            }
            return k < 0 || k >= events.size() || what < 0 || what > 3 ? -2 : events.get(k)[what];
        }

        int sum(int what) {
            if (!timed() || what < 0 || what > 3) {
                return -1;
            }
            int sum = 0;
            for (int index = 0; index < row.size() + 2 && what < 2; index++) {
                sum += what == 0 ? stopTimes[index][4]
                        : index == 0 ? 0 : way(stopPlace(index - 1), stopPlace(index), false);
            }
            for (int k = 0; k < sorties.size() && what > 1; k++) {
                int[] s = sorties.get(k);
                sum += what == 3 ? flownTimes[k][3]
                        : way(stopPlace(s[1]), s[2], true) + way(s[2], stopPlace(s[3]), true);
            }
            return sum;
        }

        // ---- the best

        private int[] orderOf(int number) {
            int n = places.size() - 1;
            if (n == 0) {
                return number == 0 ? new int[] {0, 0} : null;
            }
            String digits = Integer.toString(number);
            char[] sorted = digits.toCharArray();
            Arrays.sort(sorted);
            if (!new String(sorted).equals("12345678".substring(0, n))) {
                return null;
            }
            int[] order = new int[n + 2];
            for (int k = 0; k < n; k++) {
                order[k + 1] = digits.charAt(k) - '0';
            }
            return order;
        }

        private int[] order;
        private List<Integer> bestKey;
        private List<Integer> bestRow;
        private List<int[]> bestSorties;

        /** Tries every plan of blocks of the order; false: it is none. */
        private boolean tryAll(int number) {
            order = orderOf(number);
            if (order == null) {
                return false;
            }
            List<Integer> keptRow = row;
            List<int[]> keptSorties = sorties;
            bestKey = null;
            blocks(0, new ArrayList<>(), new ArrayList<>(), new ArrayList<>());
            row = keptRow;
            sorties = keptSorties;
            return true;
        }

        /** The keys: of each block from the last back, its beginning (told negative: later is better) and its set. */
        private void blocks(int b, List<Integer> van, List<int[]> flown, List<Integer> key) {
            int last = order.length - 1;
            if (b == last) {
                finish(van, flown, key);
                return;
            }
            for (int next = b + 1; next <= last; next++) {
                int between = next - b - 1;
                for (int set = 0; set < 1 << between; set++) {
                    int size = Integer.bitCount(set);
                    if (size > settings[8] || size == 0 && between > 0) {
                        continue;
                    }
                    List<Integer> newVan = new ArrayList<>(van);
                    List<int[]> newFlown = new ArrayList<>(flown);
                    for (int k = 0; k < between; k++) {
                        if ((set >> k & 1) == 0) {
                            newVan.add(order[b + 1 + k]);
                        }
                    }
                    int flyer = 0;
                    for (int k = 0; k < between; k++) {
                        if ((set >> k & 1) == 1) {
                            newFlown.add(new int[] {flyer++, van.size(), order[b + 1 + k], newVan.size() + 1});
                        }
                    }
                    if (next < last) {
                        newVan.add(order[next]);
                    }
                    List<Integer> newKey = new ArrayList<>(List.of(-b, set));
                    newKey.addAll(key);
                    blocks(next, newVan, newFlown, newKey);
                }
            }
        }

        private void finish(List<Integer> van, List<int[]> flown, List<Integer> key) {
            row = van;
            sorties = flown;
            if (wrong() != 0) {
                return;
            }
            List<Integer> whole = new ArrayList<>(List.of(stopTimes[van.size() + 1][2], flown.size()));
            whole.addAll(key);
            if (bestKey == null || less(whole, bestKey)) {
                bestKey = whole;
                bestRow = van;
                bestSorties = flown;
            }
        }

        private static boolean less(List<Integer> a, List<Integer> b) {
            for (int k = 0; k < a.size() && k < b.size(); k++) {
                if (!a.get(k).equals(b.get(k))) {
                    return a.get(k) < b.get(k);
                }
            }
            return false;
        }

        int split(int number) {
            return tryAll(number) ? bestKey.get(0) : -1;
        }

        int take(int number) {
            if (!tryAll(number)) {
                return -1;
            }
            row = new ArrayList<>(bestRow);
            sorties = new ArrayList<>(bestSorties);
            return sorties.size();
        }

        int[] best(int flyers) {
            int kept = settings[8];
            settings[8] = flyers;
            int n = places.size() - 1;
            int[] best = {Integer.MAX_VALUE, 0};
            int most = 1;
            for (int k = 0; k < n; k++) {
                most *= 10;
            }
            for (int number = 0; number < most; number++) {
                int end = split(number);
                if (end >= 0 && end < best[0]) {
                    best = new int[] {end, number};
                }
            }
            settings[8] = kept;
            return best;
        }

        int wind(int number, int w) {
            if (w < -1 || w > 8 || orderOf(number) == null) {
                return -1;
            }
            int[] kept = settings.clone();
            int least = Integer.MAX_VALUE;
            int first = -1;
            for (int k = 0; k < 9; k++) {
                settings[2] = k % 3 - 1;
                settings[3] = k / 3 - 1;
                int end = split(number);
                if (w == k) {
                    settings = kept;
                    return end;
                }
                if (end < least) {
                    least = end;
                    first = k;
                }
            }
            settings = kept;
            return first;
        }
    }
}
