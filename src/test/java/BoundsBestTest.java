/** Each sentence of Terms 3 and of promises 23 to 28 that names a bound. */
public final class BoundsBestTest extends Check {
    private static final int MIN = Integer.MIN_VALUE;
    private static final int MAX = Integer.MAX_VALUE;

    public static void main(String[] args) {
        noCustomers();
        ordersThatAre();
        ordersThatAreNone();
        takeRefused();
        askingChangesNothing();
        takeIsThePlan();
        noFlyers();
        oneFlyer();
        twoFlyers();
        neverThreeInABlock();
        lightOnes();
        lastingOnes();
        lastingOnesCaughtSecond();
        launchAndCatchInABlock();
        caughtByWhenTheyCome();
        fewestSorties();
        fewestAheadOfLatest();
        fewestOfTwoFlyers();
        lastBlockBeginsLatest();
        leastSet();
        leastSetOfTwo();
        soOnBackByBeginning();
        soOnBackBySet();
        flyersByTheOrder();
        bestSevenAtMost();
        bestEightByText();
        bestFirstOfSeveral();
        bestNotTheFirst();
        aloneWhats();
        aloneSevenAtMost();
        aloneWithoutFlyers();
        windEach();
        windOutside();
        windFirstOfSeveral();
        windTheVeryFirst();
        finish();
    }

    /** So many at the DEPOT's spot: no drive, flights of a minute; LAUNCH 0, CATCH 0. */
    private static TruckWing spot(int n, int service, int weight) {
        TruckWing x = new TruckWing();
        for (int k = 0; k < n; k++) {
            x.customer(0, 0, service, 0, weight);
        }
        x.set(6, 0);
        x.set(7, 0);
        return x;
    }

    private static void sortieDue(TruckWing x, int k, int flyer, int from, int customer, int at) {
        int[] due = {flyer, from, customer, at};
        for (int what = 0; what < 4; what++) {
            due("sortie(" + k + ", " + what + ")", sortie(x, k, what), due[what]);
        }
    }

    private static void rowDue(TruckWing x, int... row) {
        due("count(1)", x.count(1), row.length + 2);
        for (int k = 0; k < row.length; k++) {
            due("stop(" + (k + 1) + ", 0)", x.stop(k + 1, 0), row[k]);
        }
    }

    private static int ascending(int n) {
        return 12345678 / (int) Math.pow(10, 8 - n);
    }

    private static int descending(int n) {
        return 87654321 % (int) Math.pow(10, n);
    }

    private static void noCustomers() {
        says("23: (n 0: 0 is one.)");
        TruckWing x = new TruckWing();
        due("split(0)", x.split(0), 0);
        due("take(0)", x.take(0), 0);
        due("wind(0, 4)", x.wind(0, 4), 0);
        due("best()", x.best(), 0);
        due("bestOrder()", x.bestOrder(), 0);
        due("alone(0)", x.alone(0), 0);
        due("alone(1)", x.alone(1), 0);
        for (int order : new int[] {1, -1, 10, 9, MIN, MAX}) {
            none(x, order);
        }
        due("count(1)", x.count(1), 2);
    }

    private static void none(TruckWing x, int order) {
        due("split(" + order + "), n " + x.count(0), x.split(order), -1);
        due("take(" + order + "), n " + x.count(0), x.take(order), -1);
        due("wind(" + order + ", 4), n " + x.count(0), x.wind(order, 4), -1);
        due("wind(" + order + ", -1), n " + x.count(0), x.wind(order, -1), -1);
    }

    private static void ordersThatAre() {
        says("23: an ORDER (digits of a number, the first the highest, each CUSTOMER once).");
        for (int n = 1; n <= 8; n++) {
            TruckWing x = spot(n, 3, 99);
            for (int order : new int[] {ascending(n), descending(n)}) {
                due("split(" + order + ")", x.split(order), 3 * n);
                due("take(" + order + ")", x.take(order), 0);
                int rest = order;
                for (int index = n; index >= 1; index--) {
                    due("stop(" + index + ", 0)", x.stop(index, 0), rest % 10);
                    rest /= 10;
                }
                due("wind(" + order + ", 0)", x.wind(order, 0), 3 * n);
                due("wind(" + order + ", 8)", x.wind(order, 8), 3 * n);
            }
        }
    }

    private static void ordersThatAreNone() {
        says("23, 24, 28: NONE: it is none.");
        for (int n = 1; n <= 8; n++) {
            TruckWing x = spot(n, 3, 99);
            int order = ascending(n);
            none(x, 0);
            none(x, -1);
            none(x, -order);
            none(x, order / 10);
            none(x, order - n);
            none(x, order + 1);
            none(x, order * 10);
            none(x, order * 10 + 1);
            none(x, order * 10 + n + 1);
            none(x, order % (int) Math.pow(10, n - 1));
            none(x, MIN);
            none(x, MAX);
            if (n > 1) {
                none(x, order - n + 1);
                none(x, order - 1);
            }
        }
    }

    private static void takeRefused() {
        says("24: NONE: it is none (it changes nothing).");
        for (int order : new int[] {0, 1, 11, 13, -12, 120, 121, MIN, MAX}) {
            TruckWing x = spot(2, 3, 0);
            x.go(2);
            x.fly(0, 0, 1, 1);
            refused("take(" + order + ")", x, y -> y.take(order), -1);
        }
    }

    private static void askingChangesNothing() {
        says("23, 25 to 28: END .. (the PLAN and the SETTINGS stay)");
        TruckWing[] all = new TruckWing[6];
        for (int k = 0; k < all.length; k++) {
            all[k] = spot(2, 3, 0);
            all[k].set(2, 3);
            all[k].go(2);
            all[k].fly(0, 0, 1, 1);
        }
        refused("split(12)", all[0], y -> y.split(12), 3);
        refused("best()", all[1], TruckWing::best, 3);
        refused("bestOrder()", all[2], TruckWing::bestOrder, 12);
        refused("alone(0)", all[3], y -> y.alone(0), 6);
        refused("wind(21, 8)", all[4], y -> y.wind(21, 8), 3);
        refused("wind(21, -1)", all[5], y -> y.wind(21, -1), 0);
    }

    private static void takeIsThePlan() {
        says("24: The SPLIT of an ORDER is the PLAN then: how many SORTIES.");
        TruckWing x = spot(2, 30, 0);
        for (int k = 0; k < 8; k++) {
            x.go(1);
            x.fly(1, 9, 2, 9);
        }
        due("take(12)", x.take(12), 1);
        due("count(2)", x.count(2), 1);
        rowDue(x, 2);
        sortieDue(x, 0, 0, 0, 1, 1);
        due("wrong()", x.wrong(), 0);
        due("ends()", x.ends(), x.split(12));
        TruckWing y = spot(8, 30, 0);
        y.set(8, 2);
        due("1, 2, 4, 5, 7, 8 flown: so many as can be", y.take(12345678), 6);
        rowDue(y, 3, 6);
        due("ends(): 30 + 30 + 2", y.ends(), 62);
        due("wrong()", y.wrong(), 0);
        sortieDue(y, 5, 1, 2, 8, 3);
    }

    private static void noFlyers() {
        says("Terms 3: up to so many CUSTOMERS as there are FLYERS are flown (none)");
        TruckWing x = spot(3, 30, 0);
        x.set(8, 0);
        due("split(123)", x.split(123), 90);
        due("take(123)", x.take(123), 0);
        rowDue(x, 1, 2, 3);
    }

    private static void oneFlyer() {
        says("Terms 3: up to so many CUSTOMERS as there are FLYERS are flown (one)");
        TruckWing one = spot(1, 30, 0);
        due("split(1): from the DEPOT to it", one.split(1), 2);
        due("take(1)", one.take(1), 1);
        rowDue(one);
        TruckWing two = spot(2, 30, 0);
        due("split(12): one in a BLOCK", two.split(12), 30);
        TruckWing x = spot(3, 30, 0);
        due("split(123): 1 flown, 2 by the van, 3 flown", x.split(123), 32);
        due("take(123)", x.take(123), 2);
        rowDue(x, 2);
        sortieDue(x, 0, 0, 0, 1, 1);
        sortieDue(x, 1, 0, 1, 3, 2);
    }

    private static void twoFlyers() {
        says("Terms 3: up to so many CUSTOMERS as there are FLYERS are flown (two)");
        TruckWing two = spot(2, 30, 0);
        two.set(8, 2);
        due("split(12): both flown", two.split(12), 2);
        due("take(12)", two.take(12), 2);
        rowDue(two);
        TruckWing one = spot(1, 30, 0);
        one.set(8, 2);
        due("take(1): fewer than there are FLYERS", one.take(1), 1);
        due("ends()", one.ends(), 2);
    }

    private static void neverThreeInABlock() {
        says("Terms 3: up to so many CUSTOMERS as there are FLYERS (not three)");
        TruckWing three = spot(3, 30, 0);
        three.set(8, 2);
        due("split(123): the van serves one", three.split(123), 30);
        due("take(123)", three.take(123), 2);
        rowDue(three, 3);
        sortieDue(three, 0, 0, 0, 1, 1);
        sortieDue(three, 1, 1, 0, 2, 1);
        TruckWing four = spot(4, 30, 0);
        four.set(8, 2);
        due("split(1234): two flown, 3 by the van, 4 flown", four.split(1234), 32);
        due("take(1234)", four.take(1234), 3);
        rowDue(four, 3);
        sortieDue(four, 0, 0, 0, 1, 1);
        sortieDue(four, 1, 1, 0, 2, 1);
        sortieDue(four, 2, 0, 1, 4, 2);
    }

    private static void lightOnes() {
        says("Terms 3: LIGHT ones");
        int[][] all = {{50, 50, 2}, {51, 50, 30}, {0, 0, 2}, {1, 0, 30}, {99, 99, 2}, {99, 98, 30}};
        for (int[] a : all) {
            TruckWing x = spot(1, 30, a[0]);
            x.set(4, a[1]);
            due("WEIGHT " + a[0] + ", LIFT " + a[1], x.split(1), a[2]);
            due("best()", x.best(), a[2]);
            due("take(1)", x.take(1), a[2] == 2 ? 1 : 0);
        }
    }

    private static void lastingOnes() {
        says("Terms 3: PLANS that are not WRONG (6: AIR above BATTERY)");
        TruckWing x = spot(1, 30, 0);
        x.set(5, 2);
        due("AIR 2, BATTERY 2", x.split(1), 2);
        x.set(5, 1);
        due("AIR 2, BATTERY 1", x.split(1), 30);
        due("take(1)", x.take(1), 0);
        TruckWing y = spot(2, 30, 0);
        y.set(5, 30);
        due("till its catching begins, 30, BATTERY 30", y.split(12), 30);
        y.set(5, 29);
        due("BATTERY 29: 1 by the van, then 2 flown, by two BLOCKS", y.split(12), 32);
        due("take(12)", y.take(12), 1);
        sortieDue(y, 0, 0, 1, 2, 2);
        y.set(9, 0);
        due("without HOVER", y.split(12), 30);
        y.set(5, 1);
        due("without HOVER, BATTERY 1", y.split(12), 60);
    }

    private static void lastingOnesCaughtSecond() {
        says("Terms 3: PLANS that are not WRONG (6: of the second one too)");
        TruckWing x = spot(2, 30, 0);
        x.set(8, 2);
        x.set(7, 5);
        due("both come at 2, caught till 7 and till 12", x.split(12), 12);
        x.set(5, 7);
        due("AIR 2 and 7, BATTERY 7", x.split(12), 12);
        x.set(5, 6);
        due("BATTERY 6: one by the van, the other flown alone, caught at 32 till 37", x.split(12), 37);
        x.set(9, 0);
        due("without HOVER", x.split(12), 12);
    }

    private static void fewestSorties() {
        says("Terms 3: of several with the fewest SORTIES");
        int[][] all = {{1, 1, 0}, {2, 2, 0}, {3, 2, 1}};
        for (int[] a : all) {
            TruckWing x = spot(1, a[0], 0);
            due("SERVICE " + a[0] + ": split(1)", x.split(1), a[1]);
            due("SERVICE " + a[0] + ": take(1)", x.take(1), a[2]);
        }
    }

    private static void fewestAheadOfLatest() {
        says("Terms 3: the fewest SORTIES; of these that whose last BLOCK begins latest");
        TruckWing x = new TruckWing();
        x.customer(0, 0, 4, 0, 0);
        x.customer(0, 0, 4, 0, 0);
        x.customer(0, 0, 5, 2, 0);
        x.set(6, 0);
        x.set(7, 0);
        due("1 flown, 2, 3 flown: 4 + 4; or 1, then 2 while 3 is flown: 4 + 4", x.split(123), 8);
        due("take(123)", x.take(123), 1);
        rowDue(x, 1, 2);
        sortieDue(x, 0, 0, 1, 3, 3);
        TruckWing y = new TruckWing();
        y.customer(1, 0, 2, 1, 0);
        y.customer(0, 0, 0, 0, 0);
        y.customer(1, 0, 3, 0, 0);
        y.set(0, 2);
        y.set(1, 1);
        y.set(7, 0);
        due("1 flown, 2, 3 flown: 4 + 3; or 1, then 2 while 3 is flown: 4 + 3", y.split(123), 7);
        due("take(123)", y.take(123), 1);
        rowDue(y, 1, 2);
        sortieDue(y, 0, 0, 1, 3, 3);
    }

    private static void fewestOfTwoFlyers() {
        says("Terms 3: of several with the fewest SORTIES (one, not two)");
        TruckWing x = new TruckWing();
        x.customer(0, 0, 2, 1, 0);
        x.customer(0, 0, 1, 1, 0);
        x.customer(0, 0, 3, 0, 0);
        x.set(6, 0);
        x.set(7, 0);
        x.set(8, 2);
        due("1 and 2 flown while the van is at 3; or 3 flown", x.split(123), 3);
        due("take(123)", x.take(123), 1);
        rowDue(x, 1, 2);
        sortieDue(x, 0, 0, 0, 3, 3);
    }

    private static void launchAndCatchInABlock() {
        says("Terms 3: all launched at b and caught at the next one (LAUNCH, CATCH minutes each)");
        TruckWing x = spot(2, 30, 0);
        x.set(8, 2);
        x.set(6, 2);
        x.set(7, 3);
        due("they leave at 2, 4, come at 4, 6, are caught till 7, 10", x.split(12), 10);
        x.set(6, 9);
        x.set(7, 9);
        due("they leave at 9, 18, come at 11, 20, are caught till 27, 36", x.split(12), 36);
        due("take(12)", x.take(12), 2);
        due("ends()", x.ends(), 36);
        x.set(8, 1);
        due("one by the van till 39, the other caught till 48", x.split(12), 48);
        x.set(5, 29);
        due("BATTERY 29: 1 by the van, then 2 flown: 30 + 9 + 2 + 9", x.split(12), 50);
    }

    private static void caughtByWhenTheyCome() {
        says("Terms 2, 3: caught by when they come");
        int[][] all = {{10, 16}, {3, 10}, {4, 10}, {5, 11}, {0, 10}};
        for (int[] a : all) {
            TruckWing x = new TruckWing();
            x.customer(0, 0, 30, a[0], 0);
            x.customer(0, 0, 30, 0, 0);
            x.set(6, 0);
            x.set(7, 4);
            x.set(8, 2);
            due("DROP " + a[0] + ": FLYER 1 is caught from 2 to 6, or both come at 2", x.split(12), a[1]);
            due("the other way round", x.split(21), a[1]);
        }
    }

    private static void lastBlockBeginsLatest() {
        says("Terms 3: of these that whose last BLOCK begins latest");
        TruckWing x = spot(2, 3, 0);
        due("take(12): 1 flown to 2, or one of them to the DEPOT", x.take(12), 1);
        due("ends()", x.ends(), 3);
        rowDue(x, 2);
        sortieDue(x, 0, 0, 0, 1, 1);
        due("take(21)", x.take(21), 1);
        rowDue(x, 1);
        sortieDue(x, 0, 0, 0, 2, 1);
    }

    /** All at (1, 0): it is best to come back to the DEPOT with one BLOCK. */
    private static TruckWing away(int n) {
        TruckWing x = new TruckWing();
        for (int k = 0; k < n; k++) {
            x.customer(1, 0, 9, 10, 0);
        }
        x.set(6, 0);
        x.set(7, 0);
        return x;
    }

    private static void leastSet() {
        says("Terms 3: and in which the least set is flown (1 for the first CUSTOMER between, 2 for the next one)");
        TruckWing x = away(2);
        due("take(12)", x.take(12), 1);
        due("the van 3 + 9 + 3, the flyer 2 + 10 + 2", x.ends(), 15);
        rowDue(x, 2);
        sortieDue(x, 0, 0, 0, 1, 2);
        due("take(21)", x.take(21), 1);
        rowDue(x, 1);
        sortieDue(x, 0, 0, 0, 2, 2);
    }

    private static void leastSetOfTwo() {
        says("Terms 3: the least set (of two)");
        TruckWing x = away(3);
        x.set(8, 2);
        due("take(123)", x.take(123), 2);
        due("ends()", x.ends(), 15);
        rowDue(x, 3);
        sortieDue(x, 0, 0, 0, 1, 2);
        sortieDue(x, 1, 1, 0, 2, 2);
    }

    private static void soOnBackByBeginning() {
        says("Terms 3: and so on back (begins latest)");
        TruckWing x = spot(2, 3, 0);
        x.customer(10, 0, 0, 0, 99);
        due("take(123)", x.take(123), 1);
        due("3 + 30 + 30", x.ends(), 63);
        rowDue(x, 2, 3);
        sortieDue(x, 0, 0, 0, 1, 1);
    }

    private static void soOnBackBySet() {
        says("Terms 3: and so on back (the least set)");
        TruckWing x = away(2);
        x.customer(0, 0, 0, 0, 99);
        due("take(123)", x.take(123), 1);
        due("ends()", x.ends(), 15);
        rowDue(x, 2, 3);
        sortieDue(x, 0, 0, 0, 1, 2);
    }

    private static void flyersByTheOrder() {
        says("Terms 3: FLYERS 0, 1 by the ORDER");
        TruckWing x = away(3);
        x.set(8, 2);
        due("take(321)", x.take(321), 2);
        rowDue(x, 1);
        sortieDue(x, 0, 0, 0, 3, 2);
        sortieDue(x, 1, 1, 0, 2, 2);
    }

    private static void bestSevenAtMost() {
        says("25, 26: NONE: n is above 7.");
        TruckWing x = new TruckWing();
        x.set(8, 0);
        for (int n = 1; n <= 7; n++) {
            due("customer", x.customer(n, 0, 1, 0, 0), n);
            due("best(), n " + n, x.best(), 7 * n);
            due("bestOrder(), n " + n, x.bestOrder(), ascending(n));
        }
        x.customer(8, 0, 1, 0, 0);
        due("best(), n 8", x.best(), -1);
        due("bestOrder(), n 8", x.bestOrder(), -1);
        due("split, n 8", x.split(12345678), 56);
        x.drop();
        due("best(), n 7", x.best(), 49);
        due("bestOrder(), n 7", x.bestOrder(), 1234567);
    }

    private static void bestEightByText() {
        says("25: NONE: n is above 7. (behind tell)");
        TruckWing x = spot(7, 1, 99);
        due("best()", x.best(), 7);
        told(x, "to 0 0 1 0 99;", 1);
        due("best(), n 8", x.best(), -1);
        due("alone(0), n 8", x.alone(0), -1);
        x.drop();
        told(x, "depot 1 0;", 1);
        due("best(): 3 there, 3 back", x.best(), 13);
        due("alone(0)", x.alone(0), 13);
    }

    private static void bestFirstOfSeveral() {
        says("Terms 3: BEST: of several the first by CUSTOMERS.");
        for (int n = 1; n <= 7; n++) {
            TruckWing x = spot(n, 3, 99);
            due("bestOrder(), n " + n, x.bestOrder(), ascending(n));
            due("alone(1), n " + n, x.alone(1), ascending(n));
        }
    }

    private static void bestNotTheFirst() {
        says("Terms 3: BEST: that of whose SPLIT END is least");
        TruckWing x = spot(1, 0, 99);
        x.customer(50, 0, 0, 0, 99);
        x.customer(50, 50, 0, 0, 99);
        x.customer(25, 0, 0, 0, 99);
        x.customer(25, 50, 0, 0, 99);
        x.customer(0, 50, 0, 0, 99);
        x.set(0, 1);
        due("round the square", x.best(), 200);
        due("1, 4, 2, 3, 5, 6, or the other way, 1 at either end", x.bestOrder(), 142356);
        TruckWing y = spot(2, 30, 0);
        y.customer(20, 0, 0, 0, 99);
        due("1 flown to 3, 2 flown from 3: 60 + 60", y.best(), 120);
        due("bestOrder()", y.bestOrder(), 132);
        due("split(123): 1 flown to 2, 30 + 60 + 60", y.split(123), 150);
        due("split(231)", y.split(231), 120);
    }

    private static void aloneWhats() {
        says("27: END of ALONE (what 0), its ORDER (1). NONE: another what.");
        TruckWing x = spot(2, 30, 0);
        due("alone(0)", x.alone(0), 60);
        due("alone(1)", x.alone(1), 12);
        for (int what : new int[] {-1, 2, MIN, MAX}) {
            due("alone(" + what + ")", x.alone(what), -1);
        }
    }

    private static void aloneSevenAtMost() {
        says("27: NONE: n is above 7.");
        TruckWing x = spot(7, 3, 0);
        due("alone(0), n 7", x.alone(0), 21);
        due("alone(1), n 7", x.alone(1), 1234567);
        x.customer(0, 0, 3, 0, 0);
        due("alone(0), n 8", x.alone(0), -1);
        due("alone(1), n 8", x.alone(1), -1);
        x.drop();
        due("alone(0), n 7", x.alone(0), 21);
    }

    private static void aloneWithoutFlyers() {
        says("Terms 3: ALONE: the same without FLYERS.");
        TruckWing x = spot(3, 30, 0);
        for (int flyers : new int[] {2, 1, 0}) {
            x.set(8, flyers);
            due("alone(0), FLYERS " + flyers, x.alone(0), 90);
            due("best(), FLYERS " + flyers, x.best(), flyers == 2 ? 30 : flyers == 1 ? 32 : 90);
            due("FLYERS stay", x.count(18), flyers);
        }
    }

    /** 1 is flown from the DEPOT to 2 at (10, 30); to the DEPOT its AIR would be 240. */
    private static TruckWing windy() {
        TruckWing x = new TruckWing();
        x.customer(20, 40, 30, 0, 0);
        x.customer(10, 30, 0, 0, 99);
        x.set(0, 2);
        x.set(1, 3);
        x.set(5, 200);
        return x;
    }

    private static void windEach() {
        says("28, WINDS 0 to 8: x by w modulo 3, y by w by 3, less 1 each.");
        TruckWing x = windy();
        due("wind(12, 0): 272 by a flyer, 270 by the van alone", x.wind(12, 0), 270);
        for (int w = 1; w <= 8; w++) {
            due("wind(12, " + w + "): 1 + 150 - 10 x - 30 y + 1 + 80", x.wind(12, w), 272 - 10 * w);
        }
        due("wind(12, -1)", x.wind(12, -1), 8);
        for (int w = 0; w <= 8; w++) {
            x.set(2, w % 3 - 1);
            x.set(3, w / 3 - 1);
            due("split(12) with that WIND", x.split(12), w == 0 ? 270 : 272 - 10 * w);
        }
        x.set(2, 3);
        x.set(3, -3);
        due("wind(12, 4), another WIND now", x.wind(12, 4), 232);
        due("wind(12, -1), another WIND now", x.wind(12, -1), 8);
        due("WIND x stays", x.count(12), 3);
        due("WIND y stays", x.count(13), -3);
    }

    private static void windOutside() {
        says("28: (0 to 8; w NONE ..). NONE: none such.");
        TruckWing x = windy();
        for (int w : new int[] {-2, 9, 10, MIN, MAX}) {
            due("wind(12, " + w + ")", x.wind(12, w), -1);
        }
        for (int w = -1; w <= 8; w++) {
            due("wind(11, " + w + ")", x.wind(11, w), -1);
        }
        TruckWing none = new TruckWing();
        for (int w = -1; w <= 8; w++) {
            due("wind(0, " + w + "), n 0", none.wind(0, w), 0);
        }
        due("wind(0, 9), n 0", none.wind(0, 9), -1);
        due("wind(0, -2), n 0", none.wind(0, -2), -1);
        TruckWing eight = spot(8, 3, 99);
        due("wind(12345678, 8), n 8", eight.wind(12345678, 8), 24);
    }

    private static void windFirstOfSeveral() {
        says("28: w NONE: the first of those by which it is least");
        TruckWing x = windy();
        x.set(8, 0);
        due("all alike", x.wind(12, -1), 0);
        TruckWing y = windy();
        y.set(5, 130);
        due("wind(12, 6): AIR 130", y.wind(12, 6), 212);
        due("wind(12, 5): AIR 140", y.wind(12, 5), 270);
        due("the least of 6, 7, 8", y.wind(12, -1), 8);
        TruckWing z = new TruckWing();
        z.customer(10, 0, 30, 0, 0);
        z.customer(10, 10, 10, 0, 99);
        z.set(0, 1);
        z.set(6, 0);
        z.set(7, 0);
        z.set(5, 30);
        int[] due = {80, 80, 80, 80, 80, 50, 80, 50, 50};
        for (int w = 0; w < 9; w++) {
            due("wind(12, " + w + "): the flyer by 30, or the van alone", z.wind(12, w), due[w]);
        }
        due("the first of 5, 7, 8", z.wind(12, -1), 5);
    }

    /** All as with windy(), turned round. */
    private static void windTheVeryFirst() {
        says("28: w NONE: the first of those by which it is least (0)");
        TruckWing x = new TruckWing();
        x.customer(30, 10, 30, 0, 0);
        x.customer(40, 20, 0, 0, 99);
        told(x, "depot 50 50;set 0 2;set 1 3;set 5 200;", 4);
        for (int w = 0; w <= 7; w++) {
            due("wind(12, " + w + ")", x.wind(12, w), 192 + 10 * w);
        }
        due("wind(12, 8): the van alone", x.wind(12, 8), 270);
        due("wind(12, -1)", x.wind(12, -1), 0);
    }
}
