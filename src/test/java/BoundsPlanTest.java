/** Each sentence of Terms 2 and of promises 17 to 22 that names a bound. */
public final class BoundsPlanTest extends Check {
    private static final int MIN = Integer.MIN_VALUE;
    private static final int MAX = Integer.MAX_VALUE;

    public static void main(String[] args) {
        rightAtFirst();
        flyerThereIsNot();
        indexThereIsNot();
        endsNotBehind();
        numberOfImpossible();
        servedMoreThanOnce();
        servedByNobody();
        notLight();
        numberOfNotLight();
        overlaps();
        numberOfOverlap();
        airAboveBattery();
        airWithHover();
        airOfTheCaughtSecond();
        leastAndMostBattery();
        firstKind();
        noTimesByOneToFive();
        timesBySix();
        endsBounds();
        longestPlan();
        stopBounds();
        leavesAtTheLast();
        waitBounds();
        waitsForTwo();
        caughtOneBehindAnother();
        launchAndCatchMost();
        flownBounds();
        eventBounds();
        eventsAtFirst();
        mostEvents();
        sumBounds();
        finish();
    }

    /** Customers k at (k, 0), all alike and LIGHT. */
    private static TruckWing line(int n) {
        TruckWing x = new TruckWing();
        for (int k = 1; k <= n; k++) {
            x.customer(k, 0, 0, 0, 10);
        }
        return x;
    }

    private static TruckWing lineWithRow(int n, int row) {
        TruckWing x = line(n);
        for (int k = 1; k <= row; k++) {
            x.go(k);
        }
        return x;
    }

    private static void rightAtFirst() {
        says("17: What is WRONG. (0: it is right.)");
        due("n 0", new TruckWing().wrong(), 0);
        for (int n = 1; n <= 8; n++) {
            due("all in the ROW", lineWithRow(n, n).wrong(), 0);
        }
    }

    private static void flyerThereIsNot() {
        says("WRONG 1 a SORTIE of a FLYER there is not");
        for (int flyers = 0; flyers <= 2; flyers++) {
            for (int flyer = 0; flyer <= 1; flyer++) {
                TruckWing x = line(1);
                x.set(8, flyers);
                x.fly(flyer, 0, 1, 1);
                due("FLYER " + flyer + " of " + flyers, x.wrong(), flyer < flyers ? 0 : 1);
            }
        }
    }

    private static void indexThereIsNot() {
        says("WRONG 1 an INDEX there is not");
        for (int row = 0; row <= 7; row++) {
            TruckWing x = lineWithRow(row + 1, row);
            x.fly(0, 0, row + 1, row + 1);
            due("at the last of " + (row + 2), x.wrong(), 0);
            x.undo(false);
            x.fly(0, row, row + 1, row + 1);
            due("from the last but one", x.wrong(), 0);
            x.undo(false);
            x.fly(0, 0, row + 1, row + 2);
            due("at one behind the last", x.wrong(), 1);
            x.undo(false);
            x.fly(0, row + 1, row + 1, row + 2);
            due("from the last", x.wrong(), 1);
            x.undo(false);
            x.fly(0, 9, row + 1, 1);
            due("from 9", x.wrong(), 1);
        }
        TruckWing x = lineWithRow(1, 0);
        x.fly(0, 0, 1, 2);
        due("at 2 of two STOPS", x.wrong(), 1);
        x.go(1);
        due("at 2 of three STOPS: served twice now", x.wrong(), 2 + 16);
    }

    private static void endsNotBehind() {
        says("WRONG 1 that ends not behind where it begins");
        for (int from = 0; from <= 3; from++) {
            for (int at = 0; at <= 3; at++) {
                TruckWing x = lineWithRow(3, 2);
                x.fly(0, from, 3, at);
                due("from " + from + " at " + at, x.wrong(), at > from ? 0 : 1);
            }
        }
    }

    private static void numberOfImpossible() {
        says("WRONG 1 (its number), of one kind the least");
        for (int wrong = 0; wrong < 8; wrong++) {
            TruckWing x = line(1);
            for (int k = 0; k < 8; k++) {
                x.fly(0, k >= wrong ? 1 : 0, 1, 1);
            }
            due("from number " + wrong + " on", x.wrong(), 1 + 16 * wrong);
        }
    }

    private static void servedMoreThanOnce() {
        says("WRONG 2 a CUSTOMER (its number) that is served more than once, of one kind the least");
        for (int c = 1; c <= 8; c++) {
            TruckWing x = lineWithRow(8, 7);
            x.fly(0, 0, c, 1);
            due("7 by the van, " + c + " flown", x.wrong(), c == 8 ? 0 : 2 + 16 * c);
            TruckWing y = line(8);
            y.go(c);
            y.go(c);
            due(c + " twice in the ROW", y.wrong(), 2 + 16 * c);
            TruckWing z = line(8);
            z.fly(0, 0, c, 1);
            due(c + " flown once", z.wrong(), 3 + (c == 1 ? 32 : 16));
            z.fly(0, 0, c, 1);
            due(c + " flown twice", z.wrong(), 2 + 16 * c);
        }
        TruckWing x = line(8);
        for (int c : new int[] {8, 5, 8, 5}) {
            x.go(c);
        }
        due("5 and 8 twice", x.wrong(), 2 + 16 * 5);
    }

    private static void servedByNobody() {
        says("WRONG 3 one that is served by nobody, of one kind the least");
        for (int n = 1; n <= 8; n++) {
            due("none served", line(n).wrong(), 3 + 16);
            due("all but the last", lineWithRow(n, n - 1).wrong(), 3 + 16 * n);
            TruckWing x = lineWithRow(n, n - 1);
            x.fly(0, 0, n, 1);
            due("the last is flown", x.wrong(), 0);
        }
    }

    private static void notLight() {
        says("LIGHT is a CUSTOMER with WEIGHT LIFT or less; WRONG 4 a SORTIE whose CUSTOMER is not LIGHT");
        int[][] all = {{50, 50, 0}, {51, 50, 4}, {49, 50, 0}, {0, 0, 0}, {1, 0, 4}, {99, 99, 0}, {99, 98, 4},
            {0, 99, 0}};
        for (int[] a : all) {
            TruckWing x = new TruckWing();
            x.customer(1, 0, 0, 0, a[0]);
            x.set(4, a[1]);
            x.fly(0, 0, 1, 1);
            due("WEIGHT " + a[0] + ", LIFT " + a[1], x.wrong(), a[2]);
            x.clear();
            x.go(1);
            due("by the van WEIGHT " + a[0] + ", LIFT " + a[1], x.wrong(), 0);
        }
    }

    private static void numberOfNotLight() {
        says("WRONG 4 a SORTIE (its number), of one kind the least");
        TruckWing x = new TruckWing();
        x.customer(1, 0, 0, 0, 60);
        x.customer(1, 0, 0, 0, 70);
        x.customer(1, 0, 0, 0, 0);
        x.set(8, 2);
        x.go(3);
        x.fly(0, 0, 2, 1);
        x.fly(1, 0, 1, 1);
        due("both are heavy", x.wrong(), 4);
        x.set(4, 70);
        due("none", x.wrong(), 0);
        x.undo(false);
        x.undo(false);
        x.fly(1, 0, 1, 1);
        x.fly(0, 0, 2, 1);
        x.set(4, 69);
        due("the second", x.wrong(), 4 + 16);
    }

    private static void overlaps() {
        says("WRONG 5 begins ahead of where one of the same FLYER ends, and ends behind where that one begins");
        for (int from = 0; from < 5; from++) {
            for (int at = from + 1; at <= 5; at++) {
                TruckWing x = lineWithRow(6, 4);
                x.set(8, 2);
                x.set(5, 999);
                x.fly(0, 2, 5, 3);
                x.fly(0, from, 6, at);
                boolean apart = at <= 2 || from >= 3;
                due("from 2 at 3, from " + from + " at " + at, x.wrong(), apart ? 0 : 5 + 16);
                x.undo(false);
                x.fly(1, from, 6, at);
                due("another FLYER from " + from + " at " + at, x.wrong(), 0);
            }
        }
    }

    private static void numberOfOverlap() {
        says("WRONG 5 .. with a lesser number (its number), of one kind the least");
        TruckWing x = lineWithRow(5, 2);
        x.set(8, 2);
        x.fly(0, 0, 3, 1);
        x.fly(1, 0, 4, 3);
        x.fly(0, 0, 5, 1);
        due("the third with the first", x.wrong(), 5 + 16 * 2);
        TruckWing y = lineWithRow(5, 2);
        y.fly(0, 0, 3, 3);
        y.fly(0, 0, 4, 1);
        y.fly(0, 1, 5, 2);
        due("the second and the third with the first", y.wrong(), 5 + 16);
        TruckWing z = lineWithRow(5, 2);
        z.fly(0, 2, 3, 3);
        z.fly(0, 1, 4, 2);
        z.fly(0, 0, 5, 1);
        due("none, though the later goes first", z.wrong(), 0);
    }

    private static void airAboveBattery() {
        says("WRONG 6 a SORTIE whose AIR is above BATTERY");
        TruckWing x = new TruckWing();
        x.customer(10, 0, 0, 5, 10);
        x.fly(0, 0, 1, 1);
        due("AIR: 20 + 5 + 20", x.flown(0, 2), 45);
        x.set(5, 45);
        due("BATTERY 45", x.wrong(), 0);
        x.set(5, 44);
        due("BATTERY 44", x.wrong(), 6);
        x.set(5, 46);
        due("BATTERY 46", x.wrong(), 0);
    }

    private static void airWithHover() {
        says("AIR: from then till it comes; with HOVER 1: till its catching begins.");
        TruckWing x = new TruckWing();
        x.customer(10, 0, 0, 0, 10);
        x.customer(20, 0, 0, 0, 10);
        x.set(8, 2);
        x.go(2);
        x.fly(1, 0, 1, 1);
        due("leaves", x.flown(0, 0), 1);
        due("comes", x.flown(0, 1), 41);
        due("AIR: the van comes at 61", x.flown(0, 2), 60);
        x.set(5, 60);
        due("BATTERY 60", x.wrong(), 0);
        x.set(5, 59);
        due("BATTERY 59", x.wrong(), 6);
        x.set(9, 0);
        due("AIR without HOVER", x.flown(0, 2), 40);
        due("BATTERY 59 without HOVER", x.wrong(), 0);
        x.set(5, 40);
        due("BATTERY 40 without HOVER", x.wrong(), 0);
        x.set(5, 39);
        due("BATTERY 39 without HOVER", x.wrong(), 6);
    }

    /** The van is at the STOP at 10, as is FLYER 0; FLYER 1 comes at 10 and its DROP. */
    private static TruckWing meeting(int drop0, int drop1) {
        TruckWing x = new TruckWing();
        x.customer(5, 5, 0, drop0, 0);
        x.customer(5, 5, 0, drop1, 0);
        x.customer(10, 0, 0, 0, 0);
        x.set(0, 1);
        x.set(1, 1);
        x.set(6, 0);
        x.set(7, 4);
        x.set(8, 2);
        x.go(3);
        x.fly(0, 0, 1, 1);
        x.fly(1, 0, 2, 1);
        return x;
    }

    private static void airOfTheCaughtSecond() {
        says("AIR .. with HOVER 1: till its catching begins (the one ahead is caught).");
        TruckWing x = meeting(0, 3);
        due("AIR of FLYER 0", x.flown(0, 2), 10);
        due("AIR of FLYER 1: comes at 13, caught from 14", x.flown(1, 2), 14);
        x.set(5, 14);
        due("BATTERY 14", x.wrong(), 0);
        x.set(5, 13);
        due("BATTERY 13", x.wrong(), 6 + 16);
        x.set(9, 0);
        due("BATTERY 13 without HOVER", x.wrong(), 0);
        x.set(5, 12);
        due("BATTERY 12 without HOVER", x.wrong(), 6 + 16);
        x.set(5, 9);
        due("both are above: the least number", x.wrong(), 6);
    }

    private static void leastAndMostBattery() {
        says("Terms 1: BATTERY 1 to 999");
        TruckWing x = new TruckWing();
        x.customer(0, 0, 0, 0, 0);
        x.fly(0, 0, 1, 1);
        x.set(5, 2);
        due("AIR 2, BATTERY 2", x.wrong(), 0);
        x.set(5, 1);
        due("AIR 2, BATTERY 1", x.wrong(), 6);
        for (int drop = 0; drop <= 1; drop++) {
            TruckWing y = new TruckWing();
            y.customer(50, 50, 0, drop, 0);
            y.customer(0, 33, 0, 0, 0);
            y.set(1, 9);
            y.set(2, -3);
            y.set(3, -3);
            y.set(5, 999);
            y.go(2);
            y.fly(0, 0, 1, 1);
            due("AIR: 450 + 150 + 150, 450 - 150 - 51, DROP", y.flown(0, 2), 999 + drop);
            due("BATTERY 999", y.wrong(), drop == 0 ? 0 : 6);
        }
    }

    private static void firstKind() {
        says("WRONG is a PLAN by the first of these");
        TruckWing x = new TruckWing();
        x.customer(9, 0, 0, 0, 99);
        x.customer(9, 0, 0, 0, 99);
        x.customer(9, 0, 0, 0, 99);
        x.customer(9, 0, 0, 0, 0);
        x.set(5, 1);
        x.fly(0, 0, 2, 1);
        x.fly(0, 0, 3, 1);
        x.fly(0, 0, 3, 1);
        x.fly(1, 0, 3, 1);
        due("1 to 6", x.wrong(), 1 + 16 * 3);
        x.set(8, 2);
        due("2 to 6", x.wrong(), 2 + 16 * 3);
        x.undo(false);
        x.undo(false);
        due("3 to 6", x.wrong(), 3 + 16);
        x.go(1);
        x.go(4);
        due("4 to 6", x.wrong(), 4);
        x.set(4, 99);
        due("5 and 6", x.wrong(), 5 + 16);
        x.undo(false);
        x.fly(1, 0, 3, 1);
        due("6", x.wrong(), 6);
        x.set(5, 100);
        due("right", x.wrong(), 0);
    }

    private static void noTimes(TruckWing x, int kind) {
        due("kind", x.wrong() % 16, kind);
        due("ends()", x.ends(), -1);
        for (int what = 0; what < 5; what++) {
            due("stop(0, " + what + ")", x.stop(0, what), -1);
        }
        for (int what = 0; what < 4; what++) {
            due("flown(0, " + what + ")", x.flown(0, what), -1);
            due("event(0, " + what + ")", x.event(0, what), -2);
            due("sum(" + what + ")", x.sum(what), -1);
        }
        due("event(-1, 0)", x.event(-1, 0), -2);
    }

    private static void noTimesByOneToFive() {
        says("the plan (NONE: WRONG by 1 to 5); 21: -2: WRONG by 1 to 5");
        TruckWing one = line(1);
        one.fly(1, 0, 1, 1);
        noTimes(one, 1);
        TruckWing two = lineWithRow(1, 1);
        two.fly(0, 0, 1, 1);
        noTimes(two, 2);
        TruckWing three = line(2);
        three.fly(0, 0, 1, 1);
        noTimes(three, 3);
        TruckWing four = line(1);
        four.set(4, 9);
        four.fly(0, 0, 1, 1);
        noTimes(four, 4);
        TruckWing five = line(2);
        five.fly(0, 0, 1, 1);
        five.fly(0, 0, 2, 1);
        noTimes(five, 5);
        five.undo(false);
        five.go(2);
        due("right again", five.wrong(), 0);
        due("times again: 1 + 6 + 1, and 6", five.ends(), 14);
    }

    private static void timesBySix() {
        says("Times are asked of PLANS that are not WRONG by 1 to 5. (by 6 they are)");
        TruckWing x = line(1);
        x.fly(0, 0, 1, 1);
        x.set(5, 1);
        due("wrong()", x.wrong(), 6);
        due("ends(): 1 + 2 + 2 + 1", x.ends(), 6);
        due("stop(1, 2)", x.stop(1, 2), 6);
        due("stop(1, 4)", x.stop(1, 4), 4);
        due("flown(0, 2)", x.flown(0, 2), 4);
        due("event(-1, 0)", x.event(-1, 0), 5);
        due("event(4, 0)", x.event(4, 0), 6);
        due("sum(0)", x.sum(0), 4);
    }

    private static void endsBounds() {
        says("18: END: READY at the last STOP.");
        TruckWing x = line(1);
        due("ends() of a wrong plan", x.ends(), -1);
        x.go(1);
        due("3 there, 3 back", x.ends(), 6);
        x.undo(true);
        x.fly(0, 0, 1, 1);
        due("caught at the DEPOT: 1 + 2 + 2 + 1", x.ends(), 6);
        x.set(7, 9);
        due("CATCH 9", x.ends(), 14);
        x.set(6, 0);
        due("LAUNCH 0", x.ends(), 13);
    }

    private static void longestPlan() {
        says("Terms 1, 2: PACE 9, x, y 50, SERVICE 30, ten STOPS");
        TruckWing x = new TruckWing();
        x.set(0, 9);
        for (int k = 1; k <= 8; k++) {
            x.customer(k % 2 * 50, k % 2 * 50, 30, 0, 0);
            x.go(k);
        }
        due("ends()", x.ends(), 8 * 900 + 8 * 30);
        due("sum(1)", x.sum(1), 8 * 900);
        due("stop(9, 1)", x.stop(9, 1), 7440);
        due("event(-1, 0)", x.event(-1, 0), 18);
        due("event(17, 0)", x.event(17, 0), 7440);
        due("event(16, 0)", x.event(16, 0), 7440);
        due("event(16, 1): the van COMES goes ahead of has served", x.event(16, 1), 0);
        due("event(17, 1)", x.event(17, 1), 1);
    }

    private static void stopBounds() {
        says("19: Of the STOP at an INDEX (NONE: there are none such).");
        for (int row = 0; row <= 8; row++) {
            TruckWing x = lineWithRow(row, row);
            due("stop(-1, 0)", x.stop(-1, 0), -1);
            due("stop(0, 0)", x.stop(0, 0), 0);
            due("stop(last but one, 0)", x.stop(row, 0), row);
            due("stop(last, 0)", x.stop(row + 1, 0), 0);
            due("stop(last, 4)", x.stop(row + 1, 4), 0);
            due("stop(behind the last, 0)", x.stop(row + 2, 0), -1);
            due("stop(MIN, 0)", x.stop(MIN, 0), -1);
            due("stop(MAX, 0)", x.stop(MAX, 0), -1);
            for (int what : new int[] {-1, 5, MIN, MAX}) {
                due("stop(0, " + what + ")", x.stop(0, what), -1);
                due("stop(last, " + what + ")", x.stop(row + 1, what), -1);
            }
        }
    }

    private static void leavesAtTheLast() {
        says("19: 3: LEAVES (at the last one: READY)");
        TruckWing x = lineWithRow(2, 1);
        x.set(6, 5);
        x.set(7, 7);
        x.fly(0, 1, 2, 2);
        due("READY at 1", x.stop(1, 2), 3);
        due("LEAVES 1", x.stop(1, 3), 8);
        due("COMES to the last", x.stop(2, 1), 11);
        due("the flyer comes: 8 + 2 + 4", x.flown(0, 1), 14);
        due("READY at the last", x.stop(2, 2), 21);
        due("LEAVES the last", x.stop(2, 3), 21);
        due("WAIT", x.stop(2, 4), 3);
    }

    private static void waitBounds() {
        says("each as soon as it is there (what it waits for it: WAIT)");
        int[][] due = {{2, 15, 0, 1, 13}, {3, 15, 0, 0, 13}, {4, 16, 1, 0, 14}};
        for (int[] d : due) {
            TruckWing x = new TruckWing();
            x.customer(5, 5, 0, d[0], 0);
            x.customer(10, 0, 3, 0, 0);
            x.set(0, 1);
            x.set(1, 1);
            x.go(2);
            x.fly(0, 0, 1, 1);
            due("has served at 14", x.stop(1, 1), 11);
            due("the flyer comes", x.flown(0, 1), 11 + d[0]);
            due("READY", x.stop(1, 2), d[1]);
            due("WAIT", x.stop(1, 4), d[2]);
            due("sum(0)", x.sum(0), d[2]);
            due("how long it is at its end", x.flown(0, 3), d[3]);
            due("sum(3)", x.sum(3), d[3]);
            due("AIR", x.flown(0, 2), d[4]);
            x.set(9, 0);
            due("AIR without HOVER", x.flown(0, 2), 10 + d[0]);
            due("how long it is at its end, without HOVER", x.flown(0, 3), d[3]);
        }
    }

    private static void waitsForTwo() {
        says("what it waits for it: WAIT (for both)");
        TruckWing x = meeting(2, 9);
        due("FLYER 0 at 12, caught till 16, FLYER 1 at 19", x.stop(1, 4), 2 + 3);
        due("READY", x.stop(1, 2), 23);
        due("sum(0)", x.sum(0), 5);
        due("stop(0, 4)", x.stop(0, 4), 0);
        due("stop(2, 4)", x.stop(2, 4), 0);
    }

    private static void caughtOneBehindAnother() {
        says("by when they come, of like ones by FLYERS: each as soon as .. the one ahead is caught");
        int[][] due = {{0, 0, 0, 4, 18, 0}, {0, 3, 0, 1, 18, 0}, {0, 4, 0, 0, 18, 0}, {0, 5, 0, 0, 19, 1},
            {1, 0, 3, 0, 18, 0}, {4, 0, 0, 0, 18, 0}, {5, 0, 0, 0, 19, 1}, {1, 1, 0, 4, 19, 1}};
        for (int[] d : due) {
            TruckWing x = meeting(d[0], d[1]);
            String name = "DROP " + d[0] + " and " + d[1] + ": ";
            due(name + "FLYER 0 at its end", x.flown(0, 3), d[2]);
            due(name + "FLYER 1 at its end", x.flown(1, 3), d[3]);
            due(name + "READY", x.stop(1, 2), d[4]);
            due(name + "WAIT", x.stop(1, 4), d[5]);
            due(name + "sum(3)", x.sum(3), d[2] + d[3]);
        }
    }

    private static void launchAndCatchMost() {
        says("Terms 1: LAUNCH, CATCH 0 to 9; Terms 2: launches by FLYERS, LAUNCH minutes each");
        for (int minutes : new int[] {0, 9}) {
            TruckWing x = meeting(0, 0);
            x.set(6, minutes);
            x.set(7, minutes);
            due("LEAVES", x.stop(0, 3), 2 * minutes);
            due("FLYER 0 leaves", x.flown(0, 0), minutes);
            due("FLYER 1 leaves", x.flown(1, 0), 2 * minutes);
            due("READY", x.stop(1, 2), 2 * minutes + 10 + 2 * minutes);
        }
    }

    private static void flownBounds() {
        says("20: Of a SORTIE (NONE: there are none such).");
        TruckWing none = lineWithRow(1, 1);
        due("flown(0, 0) of none", none.flown(0, 0), -1);
        TruckWing x = manyFlown();
        for (int k = 0; k < 6; k++) {
            int leaves = k / 2 * 2;
            int[] due = {leaves, leaves + 2, 2, 0};
            for (int what = 0; what < 4; what++) {
                due("flown(" + k + ", " + what + ")", x.flown(k, what), due[what]);
            }
            due("flown(" + k + ", -1)", x.flown(k, -1), -1);
            due("flown(" + k + ", 4)", x.flown(k, 4), -1);
        }
        for (int k : new int[] {-1, 6, 8, MIN, MAX}) {
            due("flown(" + k + ", 0)", x.flown(k, 0), -1);
        }
        due("flown(0, MIN)", x.flown(0, MIN), -1);
        due("flown(0, MAX)", x.flown(0, MAX), -1);
    }

    /** So many are flown as can be: two by the van, two flown on each of three ways; all at one spot. */
    private static TruckWing manyFlown() {
        TruckWing x = new TruckWing();
        for (int k = 1; k <= 8; k++) {
            x.customer(0, 0, 0, 0, 0);
        }
        x.set(6, 0);
        x.set(7, 0);
        x.set(8, 2);
        x.go(7);
        x.go(8);
        for (int k = 0; k < 6; k++) {
            x.fly(k % 2, k / 2, k + 1, k / 2 + 1);
        }
        return x;
    }

    private static void eventBounds() {
        says("21: How many EVENTS (k NONE, what 0), or of the k-th. -2: there are none such.");
        TruckWing x = lineWithRow(1, 1);
        due("event(-1, 0)", x.event(-1, 0), 4);
        for (int what : new int[] {-1, 1, 2, 3, 4, MIN, MAX}) {
            due("event(-1, " + what + ")", x.event(-1, what), -2);
        }
        for (int k : new int[] {-2, 4, 5, MIN, MAX}) {
            for (int what = 0; what < 4; what++) {
                due("event(" + k + ", " + what + ")", x.event(k, what), -2);
            }
        }
        int[][] due = {{0, 0, 0, -1}, {3, 0, 1, -1}, {3, 1, 1, -1}, {6, 0, 0, -1}};
        for (int k = 0; k < due.length; k++) {
            for (int what = 0; what < 4; what++) {
                due("event(" + k + ", " + what + ")", x.event(k, what), due[k][what]);
            }
            due("event(" + k + ", 4)", x.event(k, 4), -2);
            due("event(" + k + ", -1)", x.event(k, -1), -2);
        }
    }

    private static void eventsAtFirst() {
        says("EVENTS of a PLAN (from the DEPOT to it)");
        TruckWing x = new TruckWing();
        due("event(-1, 0)", x.event(-1, 0), 2);
        int[] due = {0, 0, 0, -1};
        for (int what = 0; what < 4; what++) {
            due("event(0, " + what + ")", x.event(0, what), due[what]);
            due("event(1, " + what + ")", x.event(1, what), due[what]);
            due("event(2, " + what + ")", x.event(2, what), -2);
        }
    }

    private static void mostEvents() {
        says("EVENTS in order of their minutes, of like ones by kind, then by PLACE, then by FLYER");
        TruckWing x = manyFlown();
        int[][] due = {{0, 0, 0, -1}, {0, 0, 7, -1}, {0, 1, 7, -1}, {0, 3, 0, 0}, {0, 3, 0, 1}, {1, 4, 1, 0},
            {1, 4, 2, 1}, {2, 0, 8, -1}, {2, 1, 8, -1}, {2, 2, 7, 0}, {2, 2, 7, 1}, {2, 3, 7, 0}, {2, 3, 7, 1},
            {3, 4, 3, 0}, {3, 4, 4, 1}, {4, 0, 0, -1}, {4, 2, 8, 0}, {4, 2, 8, 1}, {4, 3, 8, 0}, {4, 3, 8, 1},
            {5, 4, 5, 0}, {5, 4, 6, 1}, {6, 2, 0, 0}, {6, 2, 0, 1}};
        due("event(-1, 0)", x.event(-1, 0), 24);
        for (int k = 0; k < due.length; k++) {
            for (int what = 0; what < 4; what++) {
                due("event(" + k + ", " + what + ")", x.event(k, what), due[k][what]);
            }
        }
        due("event(24, 0)", x.event(24, 0), -2);
        due("ends()", x.ends(), 6);
        due("sum(0)", x.sum(0), 6);
        due("sum(1)", x.sum(1), 0);
        due("sum(2)", x.sum(2), 12);
        due("sum(3)", x.sum(3), 0);
    }

    private static void sumBounds() {
        says("22: Minutes .. all together (NONE: there are none such).");
        TruckWing x = new TruckWing();
        for (int what = 0; what < 4; what++) {
            due("sum(" + what + ") of the first PLAN", x.sum(what), 0);
        }
        for (int what : new int[] {-1, 4, MIN, MAX}) {
            due("sum(" + what + ")", x.sum(what), -1);
        }
        TruckWing y = meeting(2, 9);
        y.set(6, 1);
        int[] due = {1 + 4, 10 + 10, 10 + 10, 0};
        for (int what = 0; what < 4; what++) {
            due("FLYER 0 at 13, caught till 17, FLYER 1 at 21: sum(" + what + ")", y.sum(what), due[what]);
        }
        TruckWing z = meeting(1, 0);
        due("FLYER 0 at 11, caught from 14: sum(3)", z.sum(3), 3);
        z.set(9, 0);
        due("without HOVER: sum(3)", z.sum(3), 3);
    }
}
