import java.util.NoSuchElementException;

/** A van and its flyers; ../shared/DOC.md says what each call answers. */
public final class TruckWing {
    public static final int NONE = -1;

    private static final int FULL = -2;
    private static final int NO_EVENT = -2;
    private static final int NO_COUNT = -99;

    private static final int DEPOT = 0;
    private static final int MOST_CUSTOMERS = 8;
    private static final int MOST_PLACES = 9;
    private static final int MOST_STOPS = 10;
    private static final int MOST_SORTIES = 8;
    private static final int MOST_BYTES = 300;
    private static final int MOST_SEARCHED = 7;
    private static final int MOST_ORDERS = 5040;
    private static final int WINDS = 9;

    private static final int X = 0;
    private static final int Y = 1;
    private static final int SERVICE = 2;
    private static final int DROP = 3;
    private static final int WEIGHT = 4;
    private static final int FACTS = 5;
    private static final int[] FACT_MOST = {50, 50, 30, 30, 99};

    private static final int PACE = 0;
    private static final int SPEED = 1;
    private static final int WIND_X = 2;
    private static final int WIND_Y = 3;
    private static final int LIFT = 4;
    private static final int BATTERY = 5;
    private static final int LAUNCH = 6;
    private static final int CATCH = 7;
    private static final int FLYERS = 8;
    private static final int HOVER = 9;
    private static final int SETTINGS = 10;
    private static final int[] SETTING_LEAST = {1, 1, -3, -3, 0, 1, 0, 0, 0, 0};
    private static final int[] SETTING_MOST = {9, 9, 3, 3, 99, 999, 9, 9, 2, 1};
    private static final int[] SETTING_FIRST = {3, 2, 0, 0, 50, 100, 1, 1, 1, 1};

    private static final int FLYER = 0;
    private static final int FROM = 1;
    private static final int CUSTOMER = 2;
    private static final int AT = 3;
    private static final int PARTS = 4;

    private final Land land;
    private final Plan plan;
    private final Course course;
    private final Table table;
    private final Tape tape;
    private final Teller teller;
    private final Found bestFound;
    private final Found aloneFound;

    public TruckWing() {
        land = new Land();
        plan = new Plan();
        course = new Course(land, plan);
        table = new Table(land);
        tape = new Tape();
        teller = new Teller(tape);
        bestFound = new Found();
        aloneFound = new Found();
    }

    // ---- what is told

    public int feed(int a, int b, int c, int d, int e) {
        if (tape.length + 20 > MOST_BYTES) {
            return NONE;
        }
        tape.append(a);
        tape.append(b);
        tape.append(c);
        tape.append(d);
        tape.append(e);
        return tape.length;
    }

    public boolean end(int n) {
        if (n < 0 || n > tape.length) {
            return false;
        }
        tape.length = n;
        return true;
    }

    public int tell() {
        int statements = teller.read(land, plan);
        tape.length = 0;
        if (statements != NONE) {
            land.copyOf(teller.land);
            plan.copyOf(teller.plan);
            forgetSearches();
        }
        return statements;
    }

    public int fault() {
        return teller.fault;
    }

    public int customer(int x, int y, int service, int drop, int weight) {
        if (!Land.mayBeFact(X, x) || !Land.mayBeFact(Y, y) || !Land.mayBeFact(SERVICE, service)
                || !Land.mayBeFact(DROP, drop) || !Land.mayBeFact(WEIGHT, weight)) {
            return NONE;
        }
        if (land.customers >= MOST_CUSTOMERS) {
            return FULL;
        }
        land.addCustomer();
        land.putFact(land.customers, X, x);
        land.putFact(land.customers, Y, y);
        land.putFact(land.customers, SERVICE, service);
        land.putFact(land.customers, DROP, drop);
        land.putFact(land.customers, WEIGHT, weight);
        forgetSearches();
        return land.customers;
    }

    public int drop() {
        if (land.customers == 0) {
            return NONE;
        }
        land.customers--;
        plan.empty();
        forgetSearches();
        return land.customers;
    }

    public boolean set(int setting, int v) {
        if (!Land.mayBeSetting(setting, v) || land.setting(setting) == v) {
            return false;
        }
        land.putSetting(setting, v);
        forgetSearches();
        return true;
    }

    public int go(int customer) {
        if (!land.isCustomer(customer)) {
            return NONE;
        }
        return plan.addStop(customer) ? plan.stops() : FULL;
    }

    public int fly(int flyer, int from, int customer, int at) {
        if (!Plan.mayBeFlyer(flyer) || !Plan.mayBeIndex(from) || !land.isCustomer(customer)
                || !Plan.mayBeIndex(at)) {
            return NONE;
        }
        return plan.addSortie(flyer, from, customer, at) ? plan.sorties - 1 : FULL;
    }

    public int undo(boolean row) {
        if (row) {
            if (plan.rowSize == 0) {
                return NONE;
            }
            plan.rowSize--;
            return plan.rowSize;
        }
        if (plan.sorties == 0) {
            return NONE;
        }
        plan.sorties--;
        return plan.sorties;
    }

    public void clear() {
        plan.empty();
    }

    public int count(int what) {
        switch (what) {
            case 0:
                return land.customers;
            case 1:
                return plan.stops();
            case 2:
                return plan.sorties;
            case 3:
                return tape.length;
            default:
                return what >= 10 && what < 10 + SETTINGS ? land.setting(what - 10) : NO_COUNT;
        }
    }

    public int place(int place, int what) {
        return land.fact(place, what);
    }

    public int way(int from, int to, boolean flies) {
        if (!land.isPlace(from) || !land.isPlace(to)) {
            return NONE;
        }
        return flies ? land.flight(from, to, land.setting(WIND_X), land.setting(WIND_Y)) : land.drive(from, to);
    }

    public int sortie(int k, int what) throws NoSuchElementException {
        if (!plan.hasSortie(k) || what < 0 || what >= PARTS) {
            throw new NoSuchElementException();
        }
        return plan.part(k, what);
    }

    // ---- the plan

    public int wrong() {
        course.look();
        return course.verdict;
    }

    public int ends() {
        return course.look() ? course.lastReady() : NONE;
    }

    public int stop(int index, int what) {
        if (!course.look() || index < 0 || index >= plan.stops()) {
            return NONE;
        }
        return course.ofStop(index, what);
    }

    public int flown(int k, int what) {
        if (!course.look() || !plan.hasSortie(k)) {
            return NONE;
        }
        return course.ofSortie(k, what);
    }

    public int event(int k, int what) {
        if (!course.look()) {
            return NO_EVENT;
        }
        if (k == NONE && what == 0) {
            return course.diary.size;
        }
        return course.diary.part(k, what);
    }

    public int sum(int what) {
        return course.look() ? course.total(what) : NONE;
    }

    // ---- the best

    public int split(int order) {
        if (!table.readOrder(order)) {
            return NONE;
        }
        fillTable();
        return table.lastEnd();
    }

    public int take(int order) {
        if (!table.readOrder(order)) {
            return NONE;
        }
        fillTable();
        table.writePlan(plan);
        return plan.sorties;
    }

    public int best() {
        if (land.customers > MOST_SEARCHED) {
            return NONE;
        }
        searchBest();
        return bestFound.end;
    }

    public int bestOrder() {
        if (land.customers > MOST_SEARCHED) {
            return NONE;
        }
        searchBest();
        return bestFound.order;
    }

    public int alone(int what) {
        if (land.customers > MOST_SEARCHED || what < 0 || what > 1) {
            return NONE;
        }
        searchAlone();
        return what == 0 ? aloneFound.end : aloneFound.order;
    }

    public int wind(int order, int w) {
        if (w < NONE || w >= WINDS || !table.readOrder(order)) {
            return NONE;
        }
        return w == NONE ? bestWind() : endByWind(w);
    }

    private int bestWind() {
        int best = 0;
        int least = endByWind(0);
        for (int w = 1; w < WINDS; w++) {
            int end = endByWind(w);
            if (end < least) {
                least = end;
                best = w;
            }
        }
        return best;
    }

    private int endByWind(int w) {
        table.prepare(land.setting(FLYERS), w % 3 - 1, w / 3 - 1);
        table.fill(1);
        return table.lastEnd();
    }

    private void fillTable() {
        table.prepare(land.setting(FLYERS), land.setting(WIND_X), land.setting(WIND_Y));
        table.fill(1);
    }

    private void searchBest() {
        if (!bestFound.known) {
            table.prepare(land.setting(FLYERS), land.setting(WIND_X), land.setting(WIND_Y));
            table.search(bestFound);
        }
    }

    private void searchAlone() {
        if (!aloneFound.known) {
            table.prepare(0, land.setting(WIND_X), land.setting(WIND_Y));
            table.search(aloneFound);
        }
    }

    private void forgetSearches() {
        bestFound.known = false;
        aloneFound.known = false;
    }

    /** What a search through all ORDERS found, kept till a place or a setting changes. */
    private static final class Found {
        private boolean known;
        private int end;
        private int order;

        private void keep(int newEnd, int newOrder) {
            known = true;
            end = newEnd;
            order = newOrder;
        }
    }

    /** The places and the settings. */
    private static final class Land {
        private int customers;
        private final int[] facts = new int[MOST_PLACES * FACTS];
        private final int[] settings = SETTING_FIRST.clone();

        private static boolean mayBeFact(int what, int v) {
            return what >= 0 && what < FACTS && v >= 0 && v <= FACT_MOST[what];
        }

        private static boolean mayBeSetting(int setting, int v) {
            return setting >= 0 && setting < SETTINGS && v >= SETTING_LEAST[setting] && v <= SETTING_MOST[setting];
        }

        private void copyOf(Land other) {
            customers = other.customers;
            System.arraycopy(other.facts, 0, facts, 0, facts.length);
            System.arraycopy(other.settings, 0, settings, 0, settings.length);
        }

        private boolean isPlace(int place) {
            return place >= 0 && place <= customers;
        }

        private boolean isCustomer(int place) {
            return place >= 1 && place <= customers;
        }

        private int fact(int place, int what) {
            boolean isThere = place >= 0 && place <= customers && what >= 0 && what < FACTS;
            return isThere ? facts[place * FACTS + what] : NONE;
        }

        private int setting(int setting) {
            return setting >= 0 && setting < SETTINGS ? settings[setting] : NONE;
        }

        private void putFact(int place, int what, int v) {
            if (isPlace(place) && mayBeFact(what, v)) {
                facts[place * FACTS + what] = v;
            }
        }

        private void putSetting(int setting, int v) {
            if (mayBeSetting(setting, v)) {
                settings[setting] = v;
            }
        }

        private void addCustomer() {
            if (customers < MOST_CUSTOMERS) {
                customers++;
            }
        }

        private boolean isLight(int customer) {
            return fact(customer, WEIGHT) <= setting(LIFT);
        }

        private int drive(int from, int to) {
            int apartX = Math.abs(fact(to, X) - fact(from, X));
            int apartY = Math.abs(fact(to, Y) - fact(from, Y));
            return setting(PACE) * (apartX + apartY);
        }

        private int flight(int from, int to, int windX, int windY) {
            if (from == to) {
                return 0;
            }
            int growsX = fact(to, X) - fact(from, X);
            int growsY = fact(to, Y) - fact(from, Y);
            int still = setting(SPEED) * Math.max(Math.abs(growsX), Math.abs(growsY));
            return Math.max(1, still - windX * growsX - windY * growsY);
        }
    }

    /** The row of the van between the DEPOT and the DEPOT, and the sorties. */
    private static final class Plan {
        private int rowSize;
        private int sorties;
        private final int[] row = new int[MOST_CUSTOMERS];
        private final int[] parts = new int[MOST_SORTIES * PARTS];

        private static boolean mayBeFlyer(int flyer) {
            return flyer == 0 || flyer == 1;
        }

        private static boolean mayBeIndex(int index) {
            return index >= 0 && index < MOST_STOPS;
        }

        private void copyOf(Plan other) {
            rowSize = other.rowSize;
            sorties = other.sorties;
            System.arraycopy(other.row, 0, row, 0, row.length);
            System.arraycopy(other.parts, 0, parts, 0, parts.length);
        }

        private void empty() {
            rowSize = 0;
            sorties = 0;
        }

        private int stops() {
            return rowSize + 2;
        }

        private int placeAt(int index) {
            return index >= 1 && index <= rowSize ? row[index - 1] : DEPOT;
        }

        private boolean addStop(int customer) {
            if (rowSize >= MOST_CUSTOMERS) {
                return false;
            }
            row[rowSize] = customer;
            rowSize++;
            return true;
        }

        private boolean addSortie(int flyer, int from, int customer, int at) {
            if (sorties >= MOST_SORTIES) {
                return false;
            }
            int first = sorties * PARTS;
            parts[first + FLYER] = flyer;
            parts[first + FROM] = from;
            parts[first + CUSTOMER] = customer;
            parts[first + AT] = at;
            sorties++;
            return true;
        }

        private boolean hasSortie(int k) {
            return k >= 0 && k < sorties;
        }

        private int part(int k, int what) {
            boolean isThere = k >= 0 && k < sorties && what >= 0 && what < PARTS;
            return isThere ? parts[k * PARTS + what] : NONE;
        }
    }

    /** EVENTS as single numbers that stand in the order of the EVENTS. */
    private static final class Diary {
        /** Two STOPS at the DEPOT; a CUSTOMER has two of the van, or three of a FLYER. */
        private static final int MOST_EVENTS = 2 + 3 * MOST_CUSTOMERS;
        private static final int KINDS = 8;
        private static final int PLACES = 16;
        private static final int FLYER_SIGNS = 4;

        private int size;
        private final int[] keys = new int[MOST_EVENTS];

        private void empty() {
            size = 0;
        }

        private void note(int minute, int kind, int place, int flyer) {
            if (size >= MOST_EVENTS) {
                return;
            }
            int key = ((minute * KINDS + kind) * PLACES + place) * FLYER_SIGNS + flyer + 1;
            int at = size;
            while (at > 0 && keys[at - 1] > key) {
                keys[at] = keys[at - 1];
                at--;
            }
            keys[at] = key;
            size++;
        }

        private int part(int k, int what) {
            if (k < 0 || k >= size) {
                return NO_EVENT;
            }
            int key = keys[k];
            switch (what) {
                case 0:
                    return key / (FLYER_SIGNS * PLACES * KINDS);
                case 1:
                    return key / (FLYER_SIGNS * PLACES) % KINDS;
                case 2:
                    return key / FLYER_SIGNS % PLACES;
                case 3:
                    return key % FLYER_SIGNS - 1;
                default:
                    return NO_EVENT;
            }
        }
    }

    /** How the plan goes, minute by minute, and what is wrong with it. */
    private static final class Course {
        private static final int COMES = 0;
        private static final int HAS_SERVED = 1;
        private static final int HAS_CAUGHT = 2;
        private static final int HAS_LAUNCHED = 3;
        private static final int HAS_DROPPED = 4;

        private final Land land;
        private final Plan plan;
        private final Diary diary = new Diary();
        private int verdict;
        private final int[] comes = new int[MOST_STOPS];
        private final int[] ready = new int[MOST_STOPS];
        private final int[] leaves = new int[MOST_STOPS];
        private final int[] waits = new int[MOST_STOPS];
        private final int[] left = new int[MOST_SORTIES];
        private final int[] back = new int[MOST_SORTIES];
        private final int[] caught = new int[MOST_SORTIES];

        private Course(Land land, Plan plan) {
            this.land = land;
            this.plan = plan;
        }

        /** Sets the verdict; true if the plan has times, which are set then too. */
        private boolean look() {
            verdict = wrongWithoutTimes();
            if (verdict != 0) {
                return false;
            }
            drivePlan();
            verdict = tooLongInAir();
            return true;
        }

        private static int told(int kind, int number) {
            return kind + 16 * number;
        }

        private int wrongWithoutTimes() {
            int found = impossibleSortie();
            if (found == 0) {
                found = servedTooOften();
            }
            if (found == 0) {
                found = servedByNobody();
            }
            if (found == 0) {
                found = tooHeavy();
            }
            return found == 0 ? overlapping() : found;
        }

        private int impossibleSortie() {
            for (int k = 0; k < plan.sorties; k++) {
                int from = plan.part(k, FROM);
                int at = plan.part(k, AT);
                if (plan.part(k, FLYER) >= land.setting(FLYERS) || at >= plan.stops() || at <= from) {
                    return told(1, k);
                }
            }
            return 0;
        }

        private int timesServed(int customer) {
            int times = 0;
            for (int index = 1; index <= plan.rowSize; index++) {
                if (plan.placeAt(index) == customer) {
                    times++;
                }
            }
            for (int k = 0; k < plan.sorties; k++) {
                if (plan.part(k, CUSTOMER) == customer) {
                    times++;
                }
            }
            return times;
        }

        private int servedTooOften() {
            for (int customer = 1; customer <= land.customers; customer++) {
                if (timesServed(customer) > 1) {
                    return told(2, customer);
                }
            }
            return 0;
        }

        private int servedByNobody() {
            for (int customer = 1; customer <= land.customers; customer++) {
                if (timesServed(customer) == 0) {
                    return told(3, customer);
                }
            }
            return 0;
        }

        private int tooHeavy() {
            for (int k = 0; k < plan.sorties; k++) {
                if (!land.isLight(plan.part(k, CUSTOMER))) {
                    return told(4, k);
                }
            }
            return 0;
        }

        private int overlapping() {
            for (int k = 0; k < plan.sorties; k++) {
                for (int lesser = 0; lesser < k; lesser++) {
                    if (plan.part(k, FLYER) == plan.part(lesser, FLYER)
                            && plan.part(k, FROM) < plan.part(lesser, AT)
                            && plan.part(k, AT) > plan.part(lesser, FROM)) {
                        return told(5, k);
                    }
                }
            }
            return 0;
        }

        private int tooLongInAir() {
            for (int k = 0; k < plan.sorties; k++) {
                if (air(k) > land.setting(BATTERY)) {
                    return told(6, k);
                }
            }
            return 0;
        }

        private int air(int k) {
            return (land.setting(HOVER) == 1 ? caught[k] : back[k]) - left[k];
        }

        private void drivePlan() {
            diary.empty();
            for (int k = 0; k < plan.sorties; k++) {
                caught[k] = NONE;
            }
            int minute = 0;
            for (int index = 0; index < plan.stops(); index++) {
                int place = plan.placeAt(index);
                if (index > 0) {
                    minute += land.drive(plan.placeAt(index - 1), place);
                }
                comes[index] = minute;
                diary.note(minute, COMES, place, NONE);
                if (place != DEPOT) {
                    minute += land.fact(place, SERVICE);
                    diary.note(minute, HAS_SERVED, place, NONE);
                }
                minute = catchAll(index, minute);
                ready[index] = minute;
                minute = launchAll(index, minute);
                leaves[index] = minute;
            }
        }

        private int catchAll(int index, int begun) {
            int minute = begun;
            waits[index] = 0;
            for (int done = 0; done < plan.sorties; done++) {
                int k = nextToCatch(index);
                if (k == NONE) {
                    return minute;
                }
                caught[k] = Math.max(minute, back[k]);
                waits[index] += caught[k] - minute;
                minute = caught[k] + land.setting(CATCH);
                diary.note(minute, HAS_CAUGHT, plan.placeAt(index), plan.part(k, FLYER));
            }
            return minute;
        }

        private int nextToCatch(int index) {
            int next = NONE;
            for (int k = 0; k < plan.sorties; k++) {
                if (plan.part(k, AT) == index && caught[k] == NONE && (next == NONE || isAhead(k, next))) {
                    next = k;
                }
            }
            return next;
        }

        private boolean isAhead(int k, int other) {
            if (back[k] != back[other]) {
                return back[k] < back[other];
            }
            return plan.part(k, FLYER) < plan.part(other, FLYER);
        }

        private int launchAll(int index, int begun) {
            int minute = begun;
            for (int flyer = 0; flyer < land.setting(FLYERS); flyer++) {
                for (int k = 0; k < plan.sorties; k++) {
                    if (plan.part(k, FROM) == index && plan.part(k, FLYER) == flyer) {
                        minute += land.setting(LAUNCH);
                        launch(k, minute);
                    }
                }
            }
            return minute;
        }

        private void launch(int k, int minute) {
            int windX = land.setting(WIND_X);
            int windY = land.setting(WIND_Y);
            int flyer = plan.part(k, FLYER);
            int customer = plan.part(k, CUSTOMER);
            int begins = plan.placeAt(plan.part(k, FROM));
            int ends = plan.placeAt(plan.part(k, AT));
            int dropped = minute + land.flight(begins, customer, windX, windY) + land.fact(customer, DROP);
            left[k] = minute;
            back[k] = dropped + land.flight(customer, ends, windX, windY);
            diary.note(minute, HAS_LAUNCHED, begins, flyer);
            diary.note(dropped, HAS_DROPPED, customer, flyer);
        }

        private int lastReady() {
            return ready[plan.rowSize + 1];
        }

        private int ofStop(int index, int what) {
            switch (what) {
                case 0:
                    return plan.placeAt(index);
                case 1:
                    return comes[index];
                case 2:
                    return ready[index];
                case 3:
                    return leaves[index];
                case 4:
                    return waits[index];
                default:
                    return NONE;
            }
        }

        private int ofSortie(int k, int what) {
            switch (what) {
                case 0:
                    return left[k];
                case 1:
                    return back[k];
                case 2:
                    return air(k);
                case 3:
                    return caught[k] - back[k];
                default:
                    return NONE;
            }
        }

        private int total(int what) {
            if (what < 0 || what > 3) {
                return NONE;
            }
            int minutes = 0;
            if (what <= 1) {
                for (int index = 0; index < plan.stops(); index++) {
                    minutes += what == 0 ? waits[index] : drivenTo(index);
                }
            } else {
                for (int k = 0; k < plan.sorties; k++) {
                    minutes += what == 2 ? flownBy(k) : caught[k] - back[k];
                }
            }
            return minutes;
        }

        private int drivenTo(int index) {
            return index > 0 ? comes[index] - leaves[index - 1] : 0;
        }

        private int flownBy(int k) {
            return back[k] - left[k] - land.fact(plan.part(k, CUSTOMER), DROP);
        }
    }

    /**
     * The best split of an ORDER: for each INDEX j of it, the least READY at j of those plans in which a block ends
     * at j. A block's minutes depend on the block alone, so the best up to j is made of a best one up to where its
     * last block begins.
     */
    private static final class Table {
        private final Land land;
        private int flyers;
        private int launch;
        private int catching;
        private int battery;
        private boolean hovers;
        private int last;
        /** DRIVE, and SERVICE of the one to which it goes. */
        private final int[] legs = new int[MOST_PLACES * MOST_PLACES];
        private final int[] flights = new int[MOST_PLACES * MOST_PLACES];
        private final int[] drops = new int[MOST_PLACES];
        private final boolean[] light = new boolean[MOST_PLACES];
        private final int[] order = new int[MOST_STOPS];
        /** When the van would have served the one at an INDEX if it served all and nobody flew. */
        private final int[] served = new int[MOST_STOPS];
        private final int[] ready = new int[MOST_STOPS];
        private final int[] sorties = new int[MOST_STOPS];
        private final int[] begins = new int[MOST_STOPS];
        private final int[] sets = new int[MOST_STOPS];
        private final int[] nexts = new int[MOST_STOPS];

        private Table(Land land) {
            this.land = land;
        }

        /** Reads the ORDER from a number's digits; false if it is none. */
        private boolean readOrder(int number) {
            int rest = number;
            int seen = 0;
            last = land.customers + 1;
            order[0] = DEPOT;
            order[last] = DEPOT;
            for (int index = land.customers; index >= 1; index--) {
                int customer = rest % 10;
                if (!land.isCustomer(customer) || (seen >> customer & 1) == 1) {
                    return false;
                }
                seen |= 1 << customer;
                order[index] = customer;
                rest /= 10;
            }
            return rest == 0;
        }

        private int orderNumber() {
            int number = 0;
            for (int index = 1; index < last; index++) {
                number = number * 10 + order[index];
            }
            return number;
        }

        private void prepare(int flyersUsed, int windX, int windY) {
            flyers = flyersUsed;
            launch = land.setting(LAUNCH);
            catching = land.setting(CATCH);
            battery = land.setting(BATTERY);
            hovers = land.setting(HOVER) == 1;
            for (int from = 0; from <= land.customers; from++) {
                drops[from] = land.fact(from, DROP);
                light[from] = land.isLight(from);
                for (int to = 0; to <= land.customers; to++) {
                    legs[from * MOST_PLACES + to] = land.drive(from, to) + land.fact(to, SERVICE);
                    flights[from * MOST_PLACES + to] = land.flight(from, to, windX, windY);
                }
            }
        }

        private int lastEnd() {
            return ready[last];
        }

        /**
         * Fills the table from an INDEX on; what stands ahead of it belongs to the same beginning of the ORDER. Last
         * blocks go by latest beginning, then by least set: only a better one replaces.
         */
        private void fill(int first) {
            for (int j = Math.max(1, first); j <= last; j++) {
                beginWithVan(j);
                for (int i = j - 2; i >= 0 && flyers > 0; i--) {
                    if (soonest(i, j) <= ready[j]) {
                        offerBlocks(i, j);
                    }
                }
            }
        }

        private void beginWithVan(int j) {
            int minutes = leg(j - 1, j);
            served[j] = served[j - 1] + minutes;
            ready[j] = ready[j - 1] + minutes;
            sorties[j] = sorties[j - 1];
            begins[j] = j - 1;
            sets[j] = 0;
        }

        /** No block from i to j ends ahead of this: no way of the van is shorter than the straight one. */
        private int soonest(int i, int j) {
            return ready[i] + launch + leg(i, j) + catching;
        }

        private void offerBlocks(int i, int j) {
            for (int high = i + 1; high < j; high++) {
                if (!light[order[high]]) {
                    continue;
                }
                offerOne(i, j, high);
                for (int low = i + 1; low < high && flyers > 1; low++) {
                    if (light[order[low]]) {
                        offerTwo(i, j, low, high);
                    }
                }
            }
        }

        private void offerOne(int i, int j, int flown) {
            int van = launch + served[j] - served[i] - spared(flown, flown);
            if (ready[i] + van + catching > ready[j]) {
                return;
            }
            int back = launch + trip(i, flown, j);
            int caught = Math.max(van, back);
            if (lasts(launch, back, caught)) {
                offer(i, j, bit(i, flown), caught + catching);
            }
        }

        private void offerTwo(int i, int j, int low, int high) {
            int sparedMinutes = high == low + 1 ? spared(low, high) : spared(low, low) + spared(high, high);
            int van = 2 * launch + served[j] - served[i] - sparedMinutes;
            if (ready[i] + van + 2 * catching > ready[j]) {
                return;
            }
            int backLow = launch + trip(i, low, j);
            int backHigh = 2 * launch + trip(i, high, j);
            int caughtLow = Math.max(van, backLow);
            int caughtHigh = Math.max(van, backHigh);
            if (backLow <= backHigh) {
                caughtHigh = Math.max(caughtLow + catching, backHigh);
            } else {
                caughtLow = Math.max(caughtHigh + catching, backLow);
            }
            if (lasts(launch, backLow, caughtLow) && lasts(2 * launch, backHigh, caughtHigh)) {
                offer(i, j, bit(i, low) | bit(i, high), Math.max(caughtLow, caughtHigh) + catching);
            }
        }

        private static int bit(int i, int between) {
            return 1 << between - i - 1;
        }

        /** The minutes go from READY at i to READY at j. */
        private void offer(int i, int j, int set, int minutes) {
            int end = ready[i] + minutes;
            int flown = sorties[i] + Integer.bitCount(set);
            if (end < ready[j] || end == ready[j] && flown < sorties[j]) {
                ready[j] = end;
                sorties[j] = flown;
                begins[j] = i;
                sets[j] = set;
            }
        }

        private boolean lasts(int left, int back, int caught) {
            return (hovers ? caught : back) - left <= battery;
        }

        /** What the van spares if it leaves out those at INDICES first to end, and drives straight past them. */
        private int spared(int first, int end) {
            int straight = legs[order[first - 1] * MOST_PLACES + order[end + 1]];
            return served[end + 1] - served[first - 1] - straight;
        }

        private int leg(int i, int j) {
            return legs[order[i] * MOST_PLACES + order[j]];
        }

        private int trip(int i, int flown, int j) {
            int customer = order[flown];
            return flights[order[i] * MOST_PLACES + customer] + drops[customer]
                    + flights[customer * MOST_PLACES + order[j]];
        }

        /** Goes through all ORDERS from the first on; each keeps what its beginning shares with the one ahead. */
        private void search(Found found) {
            last = land.customers + 1;
            for (int index = 0; index < last; index++) {
                order[index] = index;
            }
            order[last] = DEPOT;
            fill(1);
            found.keep(lastEnd(), orderNumber());
            for (int done = 1; done < MOST_ORDERS; done++) {
                int changed = nextOrder();
                if (changed == NONE) {
                    return;
                }
                fill(changed);
                if (lastEnd() < found.end) {
                    found.keep(lastEnd(), orderNumber());
                }
            }
        }

        /** The first INDEX that changes on the way to the next ORDER by CUSTOMERS; NONE: this was the last one. */
        private int nextOrder() {
            int changed = last - 2;
            while (changed >= 1 && order[changed] > order[changed + 1]) {
                changed--;
            }
            if (changed < 1) {
                return NONE;
            }
            int greater = last - 1;
            while (greater > changed + 1 && order[greater] < order[changed]) {
                greater--;
            }
            swap(changed, greater);
            int low = changed + 1;
            int high = last - 1;
            while (low < high) {
                swap(low, high);
                low++;
                high--;
            }
            return changed;
        }

        private void swap(int i, int j) {
            int kept = order[i];
            order[i] = order[j];
            order[j] = kept;
        }

        private void writePlan(Plan plan) {
            linkBlocks();
            plan.empty();
            for (int i = 0; i < last; i++) {
                if (nexts[i] != NONE) {
                    writeBlock(plan, i, nexts[i]);
                }
            }
        }

        /** The table tells where blocks begin, from behind; the plan is written from the front. */
        private void linkBlocks() {
            for (int i = 0; i <= last; i++) {
                nexts[i] = NONE;
            }
            int end = last;
            for (int blocks = 0; blocks < MOST_STOPS && end > 0; blocks++) {
                nexts[begins[end]] = end;
                end = begins[end];
            }
        }

        private void writeBlock(Plan plan, int i, int j) {
            int from = plan.rowSize;
            for (int between = i + 1; between < j; between++) {
                if (!isFlown(i, j, between)) {
                    plan.addStop(order[between]);
                }
            }
            int at = plan.rowSize + 1;
            int flyer = 0;
            for (int between = i + 1; between < j; between++) {
                if (isFlown(i, j, between)) {
                    plan.addSortie(flyer, from, order[between], at);
                    flyer++;
                }
            }
            if (j < last) {
                plan.addStop(order[j]);
            }
        }

        private boolean isFlown(int i, int j, int between) {
            return (sets[j] & bit(i, between)) != 0;
        }
    }

    /** The bytes that have been fed. */
    private static final class Tape {
        private int length;
        private final int[] bytes = new int[MOST_BYTES];

        private void append(int number) {
            if (length + 4 > MOST_BYTES) {
                return;
            }
            for (int shift = 24; shift >= 0; shift -= 8) {
                bytes[length] = number >>> shift & 255;
                length++;
            }
        }

        private int byteAt(int index) {
            return index >= 0 && index < length ? bytes[index] : NONE;
        }

        private boolean hasDigitAt(int index) {
            return byteAt(index) >= '0' && byteAt(index) <= '9';
        }

        private boolean hasLetterAt(int index) {
            return byteAt(index) >= 'a' && byteAt(index) <= 'z';
        }

        private boolean hasBlankAt(int index) {
            return byteAt(index) == ' ' || byteAt(index) == '\n';
        }
    }

    /** Tells a text to a draft of the land and of the plan, so that a fault leaves all as it was. */
    private static final class Teller {
        private static final int CANNOT_STAND = 1;
        private static final int CANNOT_BE = 2;
        private static final int ONE_TOO_MANY = 3;

        private static final int END = 0;
        private static final int WORD = 1;
        private static final int INT = 2;
        private static final int SEMICOLON = 3;
        private static final int BAD = 4;

        private static final int TELLS_DEPOT = 0;
        private static final int TELLS_CUSTOMER = 1;
        private static final int TELLS_SETTING = 2;
        private static final int TELLS_ROW = 3;
        private static final int TELLS_SORTIE = 4;
        /** How many INTS stand behind each word; behind row, at most so many. */
        private static final int[] INTS = {2, 5, 2, 8, 4};

        private final Tape tape;
        private final Land land = new Land();
        private final Plan plan = new Plan();
        private final int[] numbers = new int[MOST_CUSTOMERS];
        private int given;
        private int fault;
        private int token;
        private int start;
        private int behind;
        private int value;

        private Teller(Tape tape) {
            this.tape = tape;
        }

        /** How many statements there are; NONE: a fault. */
        private int read(Land landNow, Plan planNow) {
            land.copyOf(landNow);
            plan.copyOf(planNow);
            fault = 0;
            behind = 0;
            for (int statements = 0; statements <= MOST_BYTES; statements++) {
                step();
                if (token == END) {
                    return statements;
                }
                int tells = whatIsTold();
                if (!readStatement(tells)) {
                    return NONE;
                }
                apply(tells);
            }
            return NONE;
        }

        private int whatIsTold() {
            if (isWord("depot")) {
                return TELLS_DEPOT;
            }
            if (isWord("to")) {
                return TELLS_CUSTOMER;
            }
            if (isWord("set")) {
                return TELLS_SETTING;
            }
            if (isWord("row")) {
                return TELLS_ROW;
            }
            return isWord("fly") ? TELLS_SORTIE : NONE;
        }

        /** From the word, which is the token, to the semicolon. */
        private boolean readStatement(int tells) {
            if (tells == NONE) {
                return refuse(CANNOT_STAND);
            }
            if (tells == TELLS_CUSTOMER && land.customers >= MOST_CUSTOMERS
                    || tells == TELLS_SORTIE && plan.sorties >= MOST_SORTIES) {
                return refuse(ONE_TOO_MANY);
            }
            for (given = 0; given <= INTS[tells]; given++) {
                step();
                boolean isEnough = given == INTS[tells];
                if (token == SEMICOLON && (isEnough || tells == TELLS_ROW)) {
                    return true;
                }
                if (token != INT || isEnough && tells != TELLS_ROW) {
                    return refuse(CANNOT_STAND);
                }
                if (value < least(tells) || value > most(tells)) {
                    return refuse(CANNOT_BE);
                }
                if (isEnough) {
                    return refuse(ONE_TOO_MANY);
                }
                numbers[given] = value;
            }
            return false;
        }

        /** What the INT behind the given ones is at least. */
        private int least(int tells) {
            if (tells == TELLS_SETTING && given == 1) {
                return SETTING_LEAST[numbers[0]];
            }
            return tells == TELLS_ROW || tells == TELLS_SORTIE && given == CUSTOMER ? 1 : 0;
        }

        private int most(int tells) {
            switch (tells) {
                case TELLS_SETTING:
                    return given == 0 ? SETTINGS - 1 : SETTING_MOST[numbers[0]];
                case TELLS_ROW:
                    return land.customers;
                case TELLS_SORTIE:
                    return given == FLYER ? 1 : given == CUSTOMER ? land.customers : MOST_STOPS - 1;
                default:
                    return FACT_MOST[given];
            }
        }

        private void apply(int tells) {
            switch (tells) {
                case TELLS_DEPOT:
                    applyFacts(DEPOT);
                    break;
                case TELLS_CUSTOMER:
                    land.addCustomer();
                    applyFacts(land.customers);
                    break;
                case TELLS_SETTING:
                    land.putSetting(numbers[0], numbers[1]);
                    break;
                case TELLS_ROW:
                    applyRow();
                    break;
                default:
                    plan.addSortie(numbers[FLYER], numbers[FROM], numbers[CUSTOMER], numbers[AT]);
                    break;
            }
        }

        private void applyFacts(int place) {
            for (int what = 0; what < given; what++) {
                land.putFact(place, what, numbers[what]);
            }
        }

        private void applyRow() {
            plan.empty();
            for (int k = 0; k < given; k++) {
                plan.addStop(numbers[k]);
            }
        }

        private boolean refuse(int kind) {
            fault = kind + 8 * start;
            return false;
        }

        private void step() {
            start = behind;
            while (start < tape.length && tape.hasBlankAt(start)) {
                start++;
            }
            behind = start + 1;
            if (start >= tape.length) {
                token = END;
                behind = start;
            } else if (tape.byteAt(start) == ';') {
                token = SEMICOLON;
            } else if (tape.hasLetterAt(start)) {
                stepWord();
            } else if (tape.hasDigitAt(start)) {
                stepInt(start, 1);
            } else if (tape.byteAt(start) == '-') {
                stepInt(start + 1, -1);
            } else {
                token = BAD;
            }
        }

        private void stepWord() {
            token = WORD;
            while (behind < tape.length && tape.hasLetterAt(behind)) {
                behind++;
            }
        }

        private void stepInt(int firstDigit, int sign) {
            int digits = 0;
            int number = 0;
            while (firstDigit + digits < tape.length && tape.hasDigitAt(firstDigit + digits)) {
                number = number * 10 + tape.byteAt(firstDigit + digits) - '0';
                digits++;
            }
            token = digits >= 1 && digits <= 3 ? INT : BAD;
            value = sign * number;
            behind = firstDigit + digits;
        }

        private boolean isWord(String word) {
            if (token != WORD || behind - start != word.length()) {
                return false;
            }
            for (int k = 0; k < word.length(); k++) {
                if (tape.byteAt(start + k) != word.charAt(k)) {
                    return false;
                }
            }
            return true;
        }
    }
}
