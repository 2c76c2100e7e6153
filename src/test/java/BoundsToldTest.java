/** Each sentence of promises 1 to 16 that names a bound: the last that is taken, the first that is refused. */
public final class BoundsToldTest extends Check {
    private static final int MIN = Integer.MIN_VALUE;
    private static final int MAX = Integer.MAX_VALUE;
    private static final int[] FIRST = {3, 2, 0, 0, 50, 100, 1, 1, 1, 1};
    private static final int[] LEAST = {1, 1, -3, -3, 0, 1, 0, 0, 0, 0};
    private static final int[] MOST = {9, 9, 3, 3, 99, 999, 9, 9, 2, 1};
    private static final int[] FACT_MOST = {50, 50, 30, 30, 99};

    public static void main(String[] args) {
        newObject();
        newSettings();
        feedIsFull();
        feedRefusedWhole();
        feedHighestFirst();
        endBounds();
        endLeavesTheFirst();
        endRefused();
        tellEmpty();
        tellEmptiesTheTape();
        tellFaultStays();
        tellCountsStatements();
        faultOfTheLatest();
        customerFacts();
        customerNinth();
        customerRefused();
        dropLast();
        dropTakesThePlan();
        setBounds();
        setRefused();
        goCustomers();
        goTen();
        goWhateverSorties();
        flyBounds();
        flyNinth();
        flyRefused();
        undoNone();
        undoLast();
        clearPlan();
        countWhats();
        placeBounds();
        placeOfDepot();
        wayBounds();
        wayDrives();
        wayFlies();
        wayFliesOneAtLeast();
        sortieBounds();
        finish();
    }

    private static TruckWing withCustomers(int n) {
        TruckWing x = new TruckWing();
        for (int k = 1; k <= n; k++) {
            x.customer(k, 2 * k, k, 0, 10 * k);
        }
        return x;
    }

    /** Of each kind something: two customers, a row, two sorties, another setting, bytes on the tape. */
    private static TruckWing withAll() {
        TruckWing x = withCustomers(3);
        x.set(8, 2);
        x.go(2);
        x.fly(0, 0, 1, 1);
        x.fly(1, 0, 3, 2);
        x.feed(0, 0, 0, 0, 0);
        x.end(7);
        return x;
    }

    private static void newObject() {
        says("1: The DEPOT alone, the PLAN: from it to it.");
        TruckWing x = new TruckWing();
        due("count(0)", x.count(0), 0);
        due("place(0, 0)", x.place(0, 0), 0);
        due("place(0, 1)", x.place(0, 1), 0);
        due("place(1, 0)", x.place(1, 0), -1);
        due("count(1)", x.count(1), 2);
        due("stop(0, 0)", x.stop(0, 0), 0);
        due("stop(1, 0)", x.stop(1, 0), 0);
        due("stop(2, 0)", x.stop(2, 0), -1);
        due("count(2)", x.count(2), 0);
        due("sortie(0, 0)", sortie(x, 0, 0), THROWN);
        due("count(3)", x.count(3), 0);
        due("wrong()", x.wrong(), 0);
        due("ends()", x.ends(), 0);
    }

    private static void newSettings() {
        says("Terms 1: what the SETTINGS are at first.");
        TruckWing x = new TruckWing();
        for (int s = 0; s < 10; s++) {
            due("count(" + (10 + s) + ")", x.count(10 + s), FIRST[s]);
            due("set(" + s + ", " + FIRST[s] + ") as it is", x.set(s, FIRST[s]), false);
        }
    }

    private static void feedIsFull() {
        says("2: how many it has. NONE: more than 300.");
        TruckWing x = new TruckWing();
        for (int k = 1; k <= 15; k++) {
            due("feed " + k, x.feed(1, 2, 3, 4, 5), 20 * k);
        }
        due("feed 16", x.feed(1, 2, 3, 4, 5), -1);
        due("end(281)", x.end(281), true);
        due("feed behind 281", x.feed(1, 2, 3, 4, 5), -1);
        due("end(280)", x.end(280), true);
        due("feed behind 280", x.feed(1, 2, 3, 4, 5), 300);
        due("end(0)", x.end(0), true);
        due("feed behind 0", x.feed(1, 2, 3, 4, 5), 20);
    }

    private static void feedRefusedWhole() {
        says("2: NONE, and none come.");
        TruckWing x = new TruckWing();
        feedText(x, " ".repeat(274) + "set 0 7");
        due("count(3)", x.count(3), 281);
        refused("feed of ;", x, y -> y.feed(0x3b202020, 0x20202020, 0x20202020, 0x20202020, 0x20202020), -1);
        due("tell(): no ; has come", x.tell(), -1);
        due("fault()", x.fault(), 1 + 8 * 281);
        TruckWing full = new TruckWing();
        feedText(full, "set 0 7;" + " ".repeat(284) + "set 1 8;");
        refused("feed behind 300", full, y -> y.feed(-1, -1, -1, -1, -1), -1);
        due("tell(): both are there yet", full.tell(), 2);
        due("count(10)", full.count(10), 7);
        due("count(11)", full.count(11), 8);
    }

    private static void feedHighestFirst() {
        says("2: Twenty bytes, of each number the highest first.");
        TruckWing x = new TruckWing();
        due("set 0 7; set 1 8;   ", x.feed(0x73657420, 0x3020373b, 0x20736574, 0x20312038, 0x3b202020), 20);
        due("tell()", x.tell(), 2);
        due("count(10)", x.count(10), 7);
        due("count(11)", x.count(11), 8);
        due("bytes 255", x.feed(-1, -1, -1, -1, -1), 20);
        due("bytes 128 and 0", x.feed(MIN, MIN, MIN, MIN, MIN), 40);
        due("tell()", x.tell(), -1);
        due("fault()", x.fault(), 1);
        due("a byte 128 behind row;", x.feed(0x726f773b, 0x80000000, 0, 0, 0), 20);
        due("tell()", x.tell(), -1);
        due("fault()", x.fault(), 1 + 8 * 4);
    }

    private static void endBounds() {
        says("3: false: it has not so many, n is below 0.");
        TruckWing x = new TruckWing();
        due("end(-1) of none", x.end(-1), false);
        due("end(0) of none", x.end(0), true);
        due("end(1) of none", x.end(1), false);
        x.feed(0, 0, 0, 0, 0);
        due("end(21)", x.end(21), false);
        due("end(20)", x.end(20), true);
        due("end(19)", x.end(19), true);
        due("end(20) behind end(19)", x.end(20), false);
        due("end(-1)", x.end(-1), false);
        due("end(MIN)", x.end(MIN), false);
        due("end(MAX)", x.end(MAX), false);
        due("end(0)", x.end(0), true);
        due("end(1)", x.end(1), false);
        due("count(3)", x.count(3), 0);
    }

    private static void endLeavesTheFirst() {
        says("3: The TAPE has its first n bytes alone.");
        TruckWing x = new TruckWing();
        feedText(x, "set 0 4;set 0 5;");
        due("end(8)", x.end(8), true);
        due("count(3)", x.count(3), 8);
        feedText(x, "set 1 6;");
        due("count(3): behind the first eight", x.count(3), 16);
        due("tell()", x.tell(), 2);
        due("count(10)", x.count(10), 4);
        due("count(11)", x.count(11), 6);
    }

    private static void endRefused() {
        says("3: false (it changes nothing).");
        for (int n : new int[] {-1, 9, MIN, MAX}) {
            TruckWing x = new TruckWing();
            feedText(x, "set 0 4;");
            refused("end(" + n + ")", x, y -> y.end(n) ? 1 : 0, 0);
            due("tell()", x.tell(), 1);
        }
    }

    private static void tellEmpty() {
        says("4: how many STATEMENTS (none).");
        TruckWing x = new TruckWing();
        refused("tell() of none", x, TruckWing::tell, 0);
        told(x, " ", 0);
        told(x, "\n", 0);
        told(x, " ".repeat(300), 0);
    }

    private static void tellEmptiesTheTape() {
        says("4: The TAPE (empty then).");
        TruckWing x = new TruckWing();
        told(x, "row;", 1);
        due("tell() again", x.tell(), 0);
        faulty(x, "row", 1, 3);
        due("tell() again", x.tell(), 0);
        due("fault(): there is none now", x.fault(), 0);
    }

    private static void tellFaultStays() {
        says("4: NONE: a FAULT (all else stays as it was).");
        String[] texts = {"depot 9 9;;", "to 1 1 1 1 1;;", "set 0 9;;", "row;;", "row 1 2;;", "fly 0 0 1 1;;",
            "to 1 1 1 1 1;row 4;fly 0 0 4 1;set 8 0;set 4 99;depot 1 1;x"};
        for (String text : texts) {
            TruckWing x = withAll();
            x.end(0);
            faulty(x, ";", 1, 0);
            feedText(x, text);
            due("tell() of [" + text + "]", x.tell(), -1);
            due("fault()", x.fault(), 1 + 8 * (text.length() - 1));
            TruckWing y = withAll();
            y.end(0);
            feedText(y, ";" + " ".repeat(text.length() - 1));
            y.tell();
            String ahead = picture(y).replaceAll("\\d+$", "");
            String behind = picture(x).replaceAll("\\d+$", "");
            due("[" + text + "]: [" + ahead + "] and [" + behind + "]", ahead.equals(behind), true);
        }
        TruckWing x = withCustomers(3);
        int best = x.best();
        int alone = x.alone(0);
        faulty(x, "set 0 9;set 1 9;set 0 0;", 2, 22);
        due("best()", x.best(), best);
        due("alone(0)", x.alone(0), alone);
    }

    private static void tellCountsStatements() {
        says("4: how many STATEMENTS.");
        TruckWing x = new TruckWing();
        told(x, "row;", 1);
        told(x, "row;".repeat(75), 75);
        faulty(x, "row;".repeat(74) + "row ", 1, 300);
        faulty(x, "row;".repeat(74) + "rowa", 1, 296);
        told(x, "set 0 3;set 0 3;", 2);
    }

    private static void faultOfTheLatest() {
        says("5: FAULT of the latest tell(); 0 without, ahead of any.");
        TruckWing x = new TruckWing();
        due("fault() ahead of any", x.fault(), 0);
        feedText(x, " ;");
        due("fault() ahead of tell()", x.fault(), 0);
        due("tell()", x.tell(), -1);
        due("fault()", x.fault(), 9);
        x.feed(0, 0, 0, 0, 0);
        x.end(0);
        x.customer(1, 1, 1, 1, 1);
        x.set(0, 4);
        x.clear();
        x.drop();
        due("fault() behind other calls", x.fault(), 9);
        faulty(x, "row", 1, 3);
        due("tell() of none", x.tell(), 0);
        due("fault()", x.fault(), 0);
    }

    private static int customerWith(TruckWing x, int what, int v) {
        int[] f = {7, 7, 7, 7, 7};
        f[what] = v;
        return x.customer(f[0], f[1], f[2], f[3], f[4]);
    }

    private static void customerFacts() {
        says("6: NONE: it can't be. (Terms 1: x, y 0 to 50; SERVICE, DROP 0 to 30, WEIGHT 0 to 99)");
        for (int what = 0; what < 5; what++) {
            TruckWing x = new TruckWing();
            String fact = "fact " + what + " ";
            due(fact + "-1", customerWith(x, what, -1), -1);
            due(fact + "0", customerWith(x, what, 0), 1);
            due("place(1)", x.place(1, what), 0);
            due(fact + FACT_MOST[what], customerWith(x, what, FACT_MOST[what]), 2);
            due("place(2)", x.place(2, what), FACT_MOST[what]);
            due(fact + (FACT_MOST[what] + 1), customerWith(x, what, FACT_MOST[what] + 1), -1);
            due(fact + "MIN", customerWith(x, what, MIN), -1);
            due(fact + "MAX", customerWith(x, what, MAX), -1);
            due("count(0)", x.count(0), 2);
            for (int other = 0; other < 5; other++) {
                due("place(1, other)", x.place(1, other), other == what ? 0 : 7);
            }
        }
    }

    private static void customerNinth() {
        says("6: A CUSTOMER more: its number. -2: there are 8.");
        TruckWing x = new TruckWing();
        for (int k = 1; k <= 8; k++) {
            due("customer " + k, x.customer(k, 0, 0, 0, 0), k);
        }
        due("a ninth", x.customer(9, 0, 0, 0, 0), -2);
        due("count(0)", x.count(0), 8);
        due("place(8, 0)", x.place(8, 0), 8);
        due("drop()", x.drop(), 7);
        due("an eighth again", x.customer(9, 0, 0, 0, 0), 8);
        due("place(8, 0)", x.place(8, 0), 9);
    }

    private static void customerRefused() {
        says("6: NONE, -2 (it changes nothing).");
        for (int what = 0; what < 5; what++) {
            int fact = what;
            refused("customer, fact " + what, withAll(), y -> customerWith(y, fact, FACT_MOST[fact] + 1), -1);
        }
        refused("a ninth", withCustomers(8), y -> y.customer(1, 1, 1, 1, 1), -2);
    }

    private static void dropLast() {
        says("7: The last CUSTOMER goes: how many are left. NONE: there is none.");
        TruckWing x = withCustomers(8);
        for (int left = 7; left >= 0; left--) {
            due("drop()", x.drop(), left);
            due("place of the dropped one", x.place(left + 1, 0), -1);
            due("x of the one ahead", x.place(left, 0), left);
        }
        refused("drop() of none", x, TruckWing::drop, -1);
        due("customer: what was before is gone", x.customer(0, 0, 0, 0, 0), 1);
        due("place(1, 4)", x.place(1, 4), 0);
    }

    private static void dropTakesThePlan() {
        says("7: the PLAN is from the DEPOT to it.");
        TruckWing x = withAll();
        due("drop()", x.drop(), 2);
        due("count(1)", x.count(1), 2);
        due("count(2)", x.count(2), 0);
        due("undo(true)", x.undo(true), -1);
        due("undo(false)", x.undo(false), -1);
        due("the TAPE stays", x.count(3), 7);
        due("the SETTINGS stay", x.count(18), 2);
        TruckWing none = new TruckWing();
        told(none, "depot 3 3;", 1);
        due("drop() of none", none.drop(), -1);
        due("the DEPOT stays", none.place(0, 0), 3);
    }

    private static void setBounds() {
        says("8: A SETTING is another number: true. false: it is so, it can't be. (Terms 1)");
        for (int s = 0; s < 10; s++) {
            TruckWing x = new TruckWing();
            String call = "set(" + s + ", ";
            due(call + "one too small)", x.set(s, LEAST[s] - 1), false);
            due(call + "one too large)", x.set(s, MOST[s] + 1), false);
            due(call + "MIN)", x.set(s, MIN), false);
            due(call + "MAX)", x.set(s, MAX), false);
            due("count", x.count(10 + s), FIRST[s]);
            due(call + "least)", x.set(s, LEAST[s]), FIRST[s] != LEAST[s]);
            due("count", x.count(10 + s), LEAST[s]);
            due(call + "least) again", x.set(s, LEAST[s]), false);
            due(call + "most)", x.set(s, MOST[s]), true);
            due("count", x.count(10 + s), MOST[s]);
            due(call + "most) again", x.set(s, MOST[s]), false);
            for (int other = 0; other < 10; other++) {
                due("count of " + other, x.count(10 + other), other == s ? MOST[s] : FIRST[other]);
            }
        }
    }

    private static void setRefused() {
        says("8: false: there is none such (it changes nothing).");
        for (int s : new int[] {-1, 10, MIN, MAX}) {
            refused("set(" + s + ", 1)", withAll(), y -> y.set(s, 1) ? 1 : 0, 0);
        }
        refused("set(8, 2) as it is", withAll(), y -> y.set(8, 2) ? 1 : 0, 0);
        refused("set(8, 3)", withAll(), y -> y.set(8, 3) ? 1 : 0, 0);
        refused("set(8, -1)", withAll(), y -> y.set(8, -1) ? 1 : 0, 0);
    }

    private static void goCustomers() {
        says("9: NONE: no such CUSTOMER.");
        for (int n = 0; n <= 8; n++) {
            TruckWing x = withCustomers(n);
            due("go(-1), n " + n, x.go(-1), -1);
            due("go(0), n " + n, x.go(0), -1);
            due("go(1), n " + n, x.go(1), n >= 1 ? 3 : -1);
            due("go(n), n " + n, x.go(n), n >= 1 ? 4 : -1);
            due("go(n + 1), n " + n, x.go(n + 1), -1);
            due("go(MIN), n " + n, x.go(MIN), -1);
            due("go(MAX), n " + n, x.go(MAX), -1);
            due("count(1)", x.count(1), n >= 1 ? 4 : 2);
        }
        refused("go(4)", withAll(), y -> y.go(4), -1);
        TruckWing dropped = withCustomers(2);
        dropped.drop();
        due("go(2) behind drop()", dropped.go(2), -1);
    }

    private static void goTen() {
        says("9: A STOP more ahead of the last one: how many STOPS. -2: there are ten.");
        TruckWing x = withCustomers(8);
        for (int k = 1; k <= 8; k++) {
            due("go(" + k + ")", x.go(k), k + 2);
            due("the last but one", x.wrong() == 0 ? x.stop(k, 0) : k, k);
        }
        due("stop(9, 0)", x.stop(9, 0), 0);
        refused("go(1) with ten", x, y -> y.go(1), -2);
        due("undo(true)", x.undo(true), 7);
        due("go(8) again", x.go(8), 10);
    }

    private static void goWhateverSorties() {
        says("9: (whatever SORTIES there are)");
        TruckWing x = withCustomers(2);
        for (int k = 0; k < 8; k++) {
            due("fly", x.fly(1, 9, 1, 0), k);
        }
        due("go(1)", x.go(1), 3);
        due("go(1), served before", x.go(1), 4);
        due("count(2)", x.count(2), 8);
    }

    private static void flyBounds() {
        says("10: NONE: no such FLYER (0, 1), CUSTOMER, INDEX (0 to 9).");
        int[] least = {0, 0, 1, 0};
        int[] most = {1, 9, 3, 9};
        for (int what = 0; what < 4; what++) {
            TruckWing x = withCustomers(3);
            due("one too small, " + what, flyWith(x, what, least[what] - 1), -1);
            due("one too large, " + what, flyWith(x, what, most[what] + 1), -1);
            due("MIN, " + what, flyWith(x, what, MIN), -1);
            due("MAX, " + what, flyWith(x, what, MAX), -1);
            due("count(2)", x.count(2), 0);
            due("the least, " + what, flyWith(x, what, least[what]), 0);
            due("the most, " + what, flyWith(x, what, most[what]), 1);
            due("sortie(0)", sortie(x, 0, what), least[what]);
            due("sortie(1)", sortie(x, 1, what), most[what]);
        }
        TruckWing none = new TruckWing();
        due("fly(0, 0, 1, 1), n 0", none.fly(0, 0, 1, 1), -1);
        due("fly(0, 0, 0, 1), n 0", none.fly(0, 0, 0, 1), -1);
        TruckWing x = withCustomers(1);
        x.set(8, 0);
        due("FLYER 1 though there are none", x.fly(1, 0, 1, 1), 0);
        due("INDICES though there are only two STOPS, the wrong way", x.fly(1, 9, 1, 0), 1);
    }

    private static int flyWith(TruckWing x, int what, int v) {
        int[] s = {1, 4, 2, 5};
        s[what] = v;
        return x.fly(s[0], s[1], s[2], s[3]);
    }

    private static void flyNinth() {
        says("10: A SORTIE more: its number. -2: there are 8.");
        TruckWing x = withCustomers(1);
        for (int k = 0; k < 8; k++) {
            due("fly", x.fly(k % 2, k, 1, k + 1), k);
        }
        refused("a ninth", x, y -> y.fly(0, 0, 1, 1), -2);
        for (int k = 0; k < 8; k++) {
            due("sortie(" + k + ", 1)", sortie(x, k, 1), k);
        }
        due("undo(false)", x.undo(false), 7);
        due("an eighth again", x.fly(0, 0, 1, 1), 7);
    }

    private static void flyRefused() {
        says("10: NONE (it changes nothing).");
        refused("fly(2, ..)", withAll(), y -> y.fly(2, 0, 1, 1), -1);
        refused("fly(.., 10, ..)", withAll(), y -> y.fly(0, 10, 1, 1), -1);
        refused("fly(.., 4, ..)", withAll(), y -> y.fly(0, 0, 4, 1), -1);
        refused("fly(.., 10)", withAll(), y -> y.fly(0, 0, 1, 10), -1);
    }

    private static void undoNone() {
        says("11: NONE: there is none.");
        TruckWing x = withCustomers(1);
        refused("undo(true) of none", x, y -> y.undo(true), -1);
        x.fly(0, 0, 1, 1);
        refused("undo(true) with a SORTIE alone", x, y -> y.undo(true), -1);
        TruckWing z = withCustomers(1);
        refused("undo(false) of none", z, y -> y.undo(false), -1);
        z.go(1);
        refused("undo(false) with a ROW alone", z, y -> y.undo(false), -1);
    }

    private static void undoLast() {
        says("11: The last SORTIE goes (row not), or the last CUSTOMER of the ROW (row): how many are left.");
        TruckWing x = withCustomers(1);
        for (int k = 0; k < 8; k++) {
            x.go(1);
            x.fly(0, k, 1, k);
        }
        for (int left = 7; left >= 0; left--) {
            due("undo(false)", x.undo(false), left);
            due("the last one is gone", sortie(x, left, 1), THROWN);
            due("the one ahead stays", sortie(x, left - 1, 1), left > 0 ? left - 1 : THROWN);
            due("the ROW stays", x.count(1), 10);
        }
        x.fly(0, 0, 1, 1);
        for (int left = 7; left >= 0; left--) {
            due("undo(true)", x.undo(true), left);
            due("count(1)", x.count(1), left + 2);
        }
        due("the SORTIE stays", x.count(2), 1);
    }

    private static void clearPlan() {
        says("12: The PLAN is from the DEPOT to it, without SORTIES.");
        TruckWing x = withAll();
        x.clear();
        due("count(1)", x.count(1), 2);
        due("count(2)", x.count(2), 0);
        due("count(0)", x.count(0), 3);
        due("count(3)", x.count(3), 7);
        due("count(18)", x.count(18), 2);
        String ahead = picture(x);
        x.clear();
        due("clear() again changes nothing", picture(x).equals(ahead), true);
        due("the ROW is empty", x.go(1), 3);
        due("the first SORTIE", x.fly(0, 0, 1, 1), 0);
    }

    private static void countWhats() {
        says("13: What 0 to 3, 10 to 19. -99 for another what.");
        TruckWing x = withAll();
        int[] due = {3, 3, 2, 7, -99, -99, -99, -99, -99, -99, 3, 2, 0, 0, 50, 100, 1, 1, 2, 1, -99};
        for (int what = 0; what < due.length; what++) {
            due("count(" + what + ")", x.count(what), due[what]);
        }
        for (int what : new int[] {-1, -10, 21, 110, MIN, MAX}) {
            due("count(" + what + ")", x.count(what), -99);
        }
    }

    private static void placeBounds() {
        says("14: NONE: there is none such, another what.");
        for (int n = 0; n <= 8; n++) {
            TruckWing x = withCustomers(n);
            due("place(-1, 0), n " + n, x.place(-1, 0), -1);
            due("place(n, 0), n " + n, x.place(n, 0), n);
            due("place(n + 1, 0), n " + n, x.place(n + 1, 0), -1);
            due("place(MIN, 0), n " + n, x.place(MIN, 0), -1);
            due("place(MAX, 0), n " + n, x.place(MAX, 0), -1);
            for (int place = 0; place <= n; place++) {
                due("place(" + place + ", -1)", x.place(place, -1), -1);
                due("place(" + place + ", 4)", x.place(place, 4), 10 * place);
                due("place(" + place + ", 5)", x.place(place, 5), -1);
                due("place(" + place + ", MIN)", x.place(place, MIN), -1);
                due("place(" + place + ", MAX)", x.place(place, MAX), -1);
            }
        }
    }

    private static void placeOfDepot() {
        says("14: (0 of the DEPOT, 2 to 4).");
        TruckWing x = withCustomers(1);
        told(x, "depot 50 49;", 1);
        int[] due = {50, 49, 0, 0, 0};
        for (int what = 0; what < 5; what++) {
            due("place(0, " + what + ")", x.place(0, what), due[what]);
        }
    }

    private static void wayBounds() {
        says("15: NONE: there are none such.");
        TruckWing x = withCustomers(2);
        for (boolean flies : new boolean[] {false, true}) {
            for (int other : new int[] {-1, 3, MIN, MAX}) {
                due("way(0, " + other + ")", x.way(0, other, flies), -1);
                due("way(" + other + ", 2)", x.way(other, 2, flies), -1);
                due("way(" + other + ", " + other + ")", x.way(other, other, flies), -1);
            }
            due("way(0, 2)", x.way(0, 2, flies), flies ? 8 : 18);
            due("way(2, 0)", x.way(2, 0, flies), flies ? 8 : 18);
        }
        TruckWing none = new TruckWing();
        due("way(0, 0), n 0", none.way(0, 0, false), 0);
        due("way(0, 0), n 0", none.way(0, 0, true), 0);
        due("way(0, 1), n 0", none.way(0, 1, true), -1);
    }

    private static void wayDrives() {
        says("Terms 1: DRIVE: PACE times how far they are apart in x and in y, together.");
        TruckWing x = new TruckWing();
        x.customer(50, 50, 0, 0, 0);
        x.customer(0, 50, 0, 0, 0);
        due("all across", x.way(0, 1, false), 300);
        x.set(0, 9);
        due("all across, PACE 9", x.way(0, 1, false), 900);
        due("back", x.way(1, 0, false), 900);
        due("x alone", x.way(1, 2, false), 450);
        due("y alone", x.way(2, 0, false), 450);
        due("to itself", x.way(1, 1, false), 0);
        x.set(0, 1);
        x.set(2, 3);
        due("the WIND is nothing to the van", x.way(0, 1, false), 100);
    }

    private static void wayFlies() {
        says("Terms 1: FLIGHT: 0 of a PLACE to itself; else FLY times the greater one, less WIND x.., less WIND y..");
        TruckWing x = new TruckWing();
        x.customer(50, 20, 0, 0, 0);
        x.customer(20, 50, 0, 0, 0);
        due("the greater is x", x.way(0, 1, true), 100);
        due("the greater is y", x.way(0, 2, true), 100);
        due("alike", x.way(1, 2, true), 60);
        x.set(1, 9);
        x.set(2, -3);
        due("against WIND x", x.way(0, 1, true), 450 + 150);
        due("with WIND x", x.way(1, 0, true), 450 - 150);
        x.set(3, -3);
        due("against both", x.way(0, 1, true), 450 + 150 + 60);
        due("with both", x.way(2, 0, true), 450 - 60 - 150);
        due("x falls by 30, y grows by 30", x.way(1, 2, true), 270 - 90 + 90);
        x.set(3, 3);
        due("x falls by 30, y grows by 30, with both", x.way(1, 2, true), 270 - 90 - 90);
        due("to itself", x.way(1, 1, true), 0);
        due("of the DEPOT to itself", x.way(0, 0, true), 0);
    }

    private static void wayFliesOneAtLeast() {
        says("Terms 1: FLIGHT .. 1 at least.");
        TruckWing x = new TruckWing();
        x.customer(5, 0, 0, 0, 0);
        x.customer(5, 0, 0, 0, 0);
        x.customer(1, 0, 0, 0, 0);
        x.customer(2, 1, 0, 0, 0);
        x.set(2, 2);
        due("2 * 5 - 2 * 5 is 0", x.way(0, 1, true), 1);
        due("back it is 20", x.way(1, 0, true), 20);
        due("between two at one spot 0", x.way(1, 2, true), 1);
        x.set(2, 3);
        due("2 * 5 - 3 * 5 is below 0", x.way(0, 1, true), 1);
        x.set(2, 1);
        due("2 * 1 - 1 is 1", x.way(0, 3, true), 1);
        due("2 * 2 - 2 is 2", x.way(0, 4, true), 2);
        x.set(3, 1);
        due("2 * 2 - 2 - 1 is 1", x.way(0, 4, true), 1);
        x.set(3, 2);
        due("2 * 2 - 2 - 2 is 0", x.way(0, 4, true), 1);
    }

    private static void sortieBounds() {
        says("16: NoSuchElementException: there is none such, another what.");
        TruckWing x = withCustomers(1);
        due("sortie(0, 0) of none", sortie(x, 0, 0), THROWN);
        for (int many = 1; many <= 8; many++) {
            x.fly(1, 2, 1, 3);
            int last = many - 1;
            due("sortie(-1, 0)", sortie(x, -1, 0), THROWN);
            due("sortie(last, -1)", sortie(x, last, -1), THROWN);
            due("sortie(last, 0)", sortie(x, last, 0), 1);
            due("sortie(last, 3)", sortie(x, last, 3), 3);
            due("sortie(last, 4)", sortie(x, last, 4), THROWN);
            due("sortie(behind the last, 0)", sortie(x, many, 0), THROWN);
        }
        for (int odd : new int[] {MIN, MAX}) {
            due("sortie(odd, 0)", sortie(x, odd, 0), THROWN);
            due("sortie(0, odd)", sortie(x, 0, odd), THROWN);
        }
        refused("sortie(8, 0)", x, y -> sortie(y, 8, 0), THROWN);
    }
}
