/** Terms 4: each sentence on TEXTS and FAULTS that names a bound. */
public final class BoundsTextTest extends Check {
    private static final int CANNOT_STAND = 1;
    private static final int CANNOT_BE = 2;
    private static final int TOO_MANY = 3;

    public static void main(String[] args) {
        textsAreLong();
        depotBounds();
        depotForm();
        toBounds();
        toForm();
        setBounds();
        setForm();
        rowBounds();
        rowForm();
        rowTakesSorties();
        flyBounds();
        flyForm();
        words();
        intDigits();
        intSigns();
        intsSideBySide();
        blanks();
        oddBytes();
        semicolons();
        endOfText();
        goesOn();
        ninthCustomer();
        ninthSortie();
        ninthInRow();
        firstAlongTheText();
        ofOnePlaceTheLeast();
        finish();
    }

    private static TruckWing withCustomers(int n) {
        TruckWing x = new TruckWing();
        for (int k = 1; k <= n; k++) {
            x.customer(k, k, k, k, k);
        }
        return x;
    }

    private static void textsAreLong() {
        says("TEXTS, at most 300 bytes");
        TruckWing x = new TruckWing();
        told(x, " ".repeat(292) + "set 0 7;", 1);
        due("count(10)", x.count(10), 7);
        told(x, "set 0 8;" + "\n".repeat(292), 1);
        due("count(10)", x.count(10), 8);
        faulty(x, " ".repeat(299) + "x", CANNOT_STAND, 299);
        faulty(x, " ".repeat(293) + "set 0 7", CANNOT_STAND, 300);
    }

    /** Puts an INT in place of the k-th one and holds the answer against what it may be. */
    private static void number(int n, String word, int[] numbers, int k, int v, boolean mayBe) {
        StringBuilder text = new StringBuilder(word);
        int place = 0;
        for (int at = 0; at < numbers.length; at++) {
            text.append(' ');
            place = at == k ? text.length() : place;
            text.append(at == k ? v : numbers[at]);
        }
        text.append(';');
        TruckWing x = withCustomers(n);
        if (mayBe) {
            told(x, text.toString(), 1);
        } else {
            faulty(x, text.toString(), CANNOT_BE, place);
        }
    }

    /** The least and the most, one less and one more, and the least and the most that three digits can tell. */
    private static void bounds(int n, String word, int[] numbers, int k, int least, int most) {
        number(n, word, numbers, k, least, true);
        number(n, word, numbers, k, most, true);
        number(n, word, numbers, k, least - 1, false);
        if (most < 999) {
            number(n, word, numbers, k, most + 1, false);
            number(n, word, numbers, k, 999, false);
        }
        number(n, word, numbers, k, -999, false);
    }

    private static void depotBounds() {
        says("depot INT INT (x, y); Terms 1: x, y 0 to 50");
        bounds(0, "depot", new int[] {7, 7}, 0, 0, 50);
        bounds(0, "depot", new int[] {7, 7}, 1, 0, 50);
        TruckWing x = withCustomers(1);
        told(x, "depot 50 0;", 1);
        due("place(0, 0)", x.place(0, 0), 50);
        due("place(0, 1)", x.place(0, 1), 0);
        due("the DEPOT is no CUSTOMER more", x.count(0), 1);
    }

    private static void depotForm() {
        says("depot INT INT");
        TruckWing x = new TruckWing();
        faulty(x, "depot;", CANNOT_STAND, 5);
        faulty(x, "depot 1;", CANNOT_STAND, 7);
        told(x, "depot 1 2;", 1);
        faulty(x, "depot 1 2 3;", CANNOT_STAND, 10);
        due("place(0, 1)", x.place(0, 1), 2);
    }

    private static void toBounds() {
        says("to INT INT INT INT INT; Terms 1: x, y 0 to 50; SERVICE, DROP 0 to 30, WEIGHT 0 to 99");
        int[] numbers = {7, 7, 7, 7, 7};
        int[] most = {50, 50, 30, 30, 99};
        for (int k = 0; k < 5; k++) {
            bounds(0, "to", numbers, k, 0, most[k]);
            bounds(7, "to", numbers, k, 0, most[k]);
        }
        TruckWing x = new TruckWing();
        told(x, "to 50 49 30 29 99;to 0 1 2 3 4;", 2);
        int[][] due = {{50, 49, 30, 29, 99}, {0, 1, 2, 3, 4}};
        for (int k = 0; k < 5; k++) {
            due("place(1, " + k + ")", x.place(1, k), due[0][k]);
            due("place(2, " + k + ")", x.place(2, k), due[1][k]);
        }
    }

    private static void toForm() {
        says("to INT INT INT INT INT");
        TruckWing x = new TruckWing();
        faulty(x, "to;", CANNOT_STAND, 2);
        faulty(x, "to 1;", CANNOT_STAND, 4);
        faulty(x, "to 1 1;", CANNOT_STAND, 6);
        faulty(x, "to 1 1 1;", CANNOT_STAND, 8);
        faulty(x, "to 1 1 1 1;", CANNOT_STAND, 10);
        told(x, "to 1 1 1 1 1;", 1);
        faulty(x, "to 1 1 1 1 1 1;", CANNOT_STAND, 13);
        due("count(0)", x.count(0), 1);
    }

    private static void setBounds() {
        says("set INT INT; no such SETTING; Terms 1: what SETTINGS may be");
        int[] least = {1, 1, -3, -3, 0, 1, 0, 0, 0, 0};
        int[] most = {9, 9, 3, 3, 99, 999, 9, 9, 2, 1};
        for (int s = 0; s < 10; s++) {
            bounds(0, "set", new int[] {s, 1}, 1, least[s], most[s]);
            TruckWing x = new TruckWing();
            told(x, "set " + s + " " + least[s] + ";", 1);
            due("count(" + (10 + s) + ")", x.count(10 + s), least[s]);
            told(x, "set " + s + " " + most[s] + ";", 1);
            due("count(" + (10 + s) + ")", x.count(10 + s), most[s]);
            told(x, "set " + s + " " + most[s] + ";", 1);
        }
        bounds(0, "set", new int[] {0, 1}, 0, 0, 9);
    }

    private static void setForm() {
        says("set INT INT");
        TruckWing x = new TruckWing();
        faulty(x, "set;", CANNOT_STAND, 3);
        faulty(x, "set 0;", CANNOT_STAND, 5);
        told(x, "set 0 5;", 1);
        faulty(x, "set 0 5 5;", CANNOT_STAND, 8);
    }

    private static void rowBounds() {
        says("row { INT }; no such CUSTOMER");
        for (int n = 1; n <= 8; n++) {
            bounds(n, "row", new int[] {1, 1, 1}, 0, 1, n);
            bounds(n, "row", new int[] {1, 1, 1}, 2, 1, n);
        }
        TruckWing none = new TruckWing();
        faulty(none, "row 1;", CANNOT_BE, 4);
        faulty(none, "row 0;", CANNOT_BE, 4);
        told(none, "to 1 1 1 1 1;row 1;", 2);
        faulty(none, "row 2;to 1 1 1 1 1;", CANNOT_BE, 4);
    }

    private static void rowForm() {
        says("row { INT } (as many as one likes)");
        TruckWing x = withCustomers(8);
        told(x, "row;", 1);
        due("count(1)", x.count(1), 2);
        told(x, "row 8 7 6 5 4 3 2 1;", 1);
        due("count(1)", x.count(1), 10);
        for (int index = 1; index <= 8; index++) {
            due("stop(" + index + ", 0)", x.stop(index, 0), 9 - index);
        }
        told(x, "row 3;", 1);
        due("count(1)", x.count(1), 3);
    }

    private static void rowTakesSorties() {
        says("the PLAN has this ROW then and no SORTIES");
        TruckWing x = withCustomers(2);
        x.go(1);
        x.fly(0, 0, 2, 1);
        told(x, "row 1;", 1);
        due("count(2)", x.count(2), 0);
        told(x, "fly 0 0 2 1;row 1;fly 0 0 2 2;", 3);
        due("count(2)", x.count(2), 1);
        due("sortie(0, 3)", sortie(x, 0, 3), 2);
        told(x, "row 2;row 1;", 2);
        due("count(1): the latest ROW alone", x.count(1), 3);
    }

    private static void flyBounds() {
        says("fly INT INT INT INT; FLYER 0, 1; INDICES 0 to 9; no such CUSTOMER");
        for (int n = 1; n <= 8; n++) {
            bounds(n, "fly", new int[] {0, 0, 1, 1}, 0, 0, 1);
            bounds(n, "fly", new int[] {0, 0, 1, 1}, 1, 0, 9);
            bounds(n, "fly", new int[] {0, 0, 1, 1}, 2, 1, n);
            bounds(n, "fly", new int[] {0, 0, 1, 1}, 3, 0, 9);
        }
        TruckWing x = new TruckWing();
        faulty(x, "fly 0 0 1 1;", CANNOT_BE, 8);
        told(x, "set 8 0;to 1 1 1 1 1;fly 1 9 1 0;", 3);
        int[] due = {1, 9, 1, 0};
        for (int what = 0; what < 4; what++) {
            due("sortie(0, " + what + ")", sortie(x, 0, what), due[what]);
        }
    }

    private static void flyForm() {
        says("fly INT INT INT INT");
        TruckWing x = withCustomers(1);
        faulty(x, "fly;", CANNOT_STAND, 3);
        faulty(x, "fly 0;", CANNOT_STAND, 5);
        faulty(x, "fly 0 0;", CANNOT_STAND, 7);
        faulty(x, "fly 0 0 1;", CANNOT_STAND, 9);
        told(x, "fly 0 0 1 1;", 1);
        faulty(x, "fly 0 0 1 1 1;", CANNOT_STAND, 12);
        due("count(2)", x.count(2), 1);
    }

    private static void words() {
        says("words (letters a to z, as many as stand there)");
        TruckWing x = withCustomers(1);
        for (String word : new String[] {"ro", "rows", "rowrow", "r", "w", "ow", "roW", "Row", "rox", "qow", "a", "z",
            "fl", "flyy", "t", "too", "ot", "se", "sett", "depo", "depots", "go", "drop"}) {
            faulty(x, word + ";", CANNOT_STAND, 0);
            faulty(x, "row; " + word + " 1;", CANNOT_STAND, 5);
        }
        faulty(x, "r ow;", CANNOT_STAND, 0);
        faulty(x, "row row;", CANNOT_STAND, 4);
        faulty(x, "row 1 row;", CANNOT_STAND, 6);
        faulty(x, "depot 1 to;", CANNOT_STAND, 8);
        told(x, "row1;", 1);
        due("count(1)", x.count(1), 3);
    }

    private static void intDigits() {
        says("INTS (digits, 1 to 3); four digits and more can't stand there");
        TruckWing x = new TruckWing();
        told(x, "set 5 9;", 1);
        due("count(15)", x.count(15), 9);
        told(x, "set 5 10;", 1);
        due("count(15)", x.count(15), 10);
        told(x, "set 5 999;", 1);
        due("count(15)", x.count(15), 999);
        told(x, "set 5 001;", 1);
        due("count(15)", x.count(15), 1);
        told(x, "set 005 010;", 1);
        due("count(15): no octals", x.count(15), 10);
        faulty(x, "set 5 1000;", CANNOT_STAND, 6);
        faulty(x, "set 5 0001;", CANNOT_STAND, 6);
        faulty(x, "set 5 00000000000000001;", CANNOT_STAND, 6);
        faulty(x, "set 5 4294967297;", CANNOT_STAND, 6);
        faulty(x, "set 0005 1;", CANNOT_STAND, 4);
        faulty(x, "set 5 " + "1".repeat(294), CANNOT_STAND, 6);
        faulty(x, "0000", CANNOT_STAND, 0);
        faulty(x, "000;", CANNOT_STAND, 0);
    }

    private static void intSigns() {
        says("INTS ( [ - ] digits ); a - without a digit behind it can't stand there");
        TruckWing x = new TruckWing();
        told(x, "set 2 -1;", 1);
        due("count(12)", x.count(12), -1);
        told(x, "set 2 -003;", 1);
        due("count(12)", x.count(12), -3);
        told(x, "set 2 -0;", 1);
        due("count(12)", x.count(12), 0);
        faulty(x, "set 2 -004;", CANNOT_BE, 6);
        faulty(x, "set 2 -999;", CANNOT_BE, 6);
        faulty(x, "set 2 -0001;", CANNOT_STAND, 6);
        faulty(x, "set 2 -1000;", CANNOT_STAND, 6);
        faulty(x, "set 2 -;", CANNOT_STAND, 6);
        faulty(x, "set 2 - 1;", CANNOT_STAND, 6);
        faulty(x, "set 2 --1;", CANNOT_STAND, 6);
        faulty(x, "set 2 -a;", CANNOT_STAND, 6);
        faulty(x, "set 2 -", CANNOT_STAND, 6);
        faulty(x, "set 2 +1;", CANNOT_STAND, 6);
        faulty(x, "set 2 1-;", CANNOT_STAND, 7);
        faulty(x, "-", CANNOT_STAND, 0);
        faulty(x, "-1;", CANNOT_STAND, 0);
    }

    private static void intsSideBySide() {
        says("blanks between them as one likes (none)");
        TruckWing x = new TruckWing();
        told(x, "set2-3;", 1);
        due("count(12)", x.count(12), -3);
        told(x, "set3-2;set-0 5;", 2);
        due("count(13)", x.count(13), -2);
        due("count(10)", x.count(10), 5);
        told(x, "to1 1 1 1 1;row1;fly0 0 1 1;depot4 5;", 4);
        due("place(0, 1)", x.place(0, 1), 5);
        faulty(x, "1row;", CANNOT_STAND, 0);
        faulty(x, "row 1row;", CANNOT_STAND, 5);
        faulty(x, "depot 12;", CANNOT_STAND, 8);
    }

    private static void blanks() {
        says("blanks (32, 10)");
        TruckWing x = new TruckWing();
        told(x, "\n \nset\n\n0 \n 4\n;\n \n", 1);
        due("count(10)", x.count(10), 4);
        for (int odd : new int[] {9, 11, 13, 31, 33, 0, 160, 42, 138}) {
            char sign = (char) odd;
            faulty(x, sign + "row;", CANNOT_STAND, 0);
            faulty(x, "row" + sign + ";", CANNOT_STAND, 3);
            faulty(x, "row;" + sign, CANNOT_STAND, 4);
        }
    }

    private static void oddBytes() {
        says("1 what can't stand there");
        for (int odd = 0; odd < 256; odd++) {
            boolean isBlank = odd == 32 || odd == 10;
            TruckWing x = new TruckWing();
            if (isBlank) {
                told(x, "set 0 " + (char) odd + "5;", 1);
            } else if (odd >= '0' && odd <= '9') {
                told(x, "set 4 " + (char) odd + "5;", 1);
                due("count(14)", x.count(14), 10 * (odd - '0') + 5);
            } else if (odd == '-') {
                told(x, "set 2 -2;", 1);
            } else {
                faulty(x, "set 0 " + (char) odd + "5;", CANNOT_STAND, 6);
            }
            boolean ends = odd == ';' || isBlank;
            if (ends) {
                told(x, "row" + (char) odd + (odd == ';' ? "" : ";"), 1);
            } else {
                boolean isLetter = odd >= 'a' && odd <= 'z';
                boolean isDigit = odd >= '0' && odd <= '9';
                faulty(x, "row" + (char) odd + ";", isDigit ? CANNOT_BE : CANNOT_STAND, isLetter ? 0 : 3);
            }
        }
    }

    private static void semicolons() {
        says("{ STATEMENT ; }");
        TruckWing x = withCustomers(1);
        faulty(x, ";", CANNOT_STAND, 0);
        faulty(x, "row;;", CANNOT_STAND, 4);
        faulty(x, "row; ;", CANNOT_STAND, 5);
        faulty(x, "row 1 depot 1 1;", CANNOT_STAND, 6);
        faulty(x, "depot 1 1 row;", CANNOT_STAND, 10);
        faulty(x, "depot 1; 1;", CANNOT_STAND, 7);
        told(x, "row;row;", 2);
    }

    private static void endOfText() {
        says("the end's: the text's length");
        TruckWing x = withCustomers(1);
        String whole = "to 1 1 1 1 1";
        for (int length : new int[] {2, 4, 6, 8, 10, 12}) {
            faulty(x, whole.substring(0, length), CANNOT_STAND, length);
            faulty(x, whole.substring(0, length) + " \n ", CANNOT_STAND, length + 3);
        }
        faulty(x, "row", CANNOT_STAND, 3);
        faulty(x, "row 1", CANNOT_STAND, 5);
        faulty(x, "row; set 0 4", CANNOT_STAND, 12);
        faulty(x, "ro", CANNOT_STAND, 0);
    }

    private static void goesOn() {
        says("A TEXT goes on from what there is.");
        TruckWing x = withCustomers(1);
        x.set(0, 7);
        x.go(1);
        x.fly(1, 0, 1, 1);
        told(x, "to 2 2 2 2 2;fly 0 3 2 4;", 2);
        due("count(0)", x.count(0), 2);
        due("place(1, 0)", x.place(1, 0), 1);
        due("count(10)", x.count(10), 7);
        due("count(1)", x.count(1), 3);
        due("count(2)", x.count(2), 2);
        due("sortie(0, 0)", sortie(x, 0, 0), 1);
        due("sortie(1, 1)", sortie(x, 1, 1), 3);
        due("the next number", x.customer(3, 3, 3, 3, 3), 3);
        due("the next number", x.fly(0, 0, 3, 1), 2);
        due("the next STOP", x.go(3), 4);
    }

    private static void ninthCustomer() {
        says("3 a ninth CUSTOMER (at to)");
        TruckWing x = withCustomers(7);
        faulty(x, "to 1 1 1 1 1;to 1 1 1 1 1;", TOO_MANY, 13);
        due("count(0)", x.count(0), 7);
        told(x, "to 1 1 1 1 1;", 1);
        faulty(x, "to 1 1 1 1 1;", TOO_MANY, 0);
        faulty(x, "row; to 99 1 1 1 1;", TOO_MANY, 5);
        faulty(x, "to;", TOO_MANY, 0);
        faulty(x, "too 1 1 1 1 1;", CANNOT_STAND, 0);
        x.drop();
        told(x, "to 1 1 1 1 1;", 1);
        TruckWing none = new TruckWing();
        told(none, "to 1 1 1 1 1;".repeat(8), 8);
        TruckWing nine = new TruckWing();
        faulty(nine, "to 1 1 1 1 1;".repeat(9), TOO_MANY, 8 * 13);
        due("count(0)", nine.count(0), 0);
    }

    private static void ninthSortie() {
        says("3 a ninth SORTIE (at fly)");
        TruckWing x = withCustomers(1);
        told(x, "fly 0 0 1 1;".repeat(7), 7);
        faulty(x, "fly 0 0 1 1;fly 0 0 1 1;", TOO_MANY, 12);
        due("count(2)", x.count(2), 7);
        told(x, "fly 0 0 1 1;", 1);
        faulty(x, "fly 0 0 1 1;", TOO_MANY, 0);
        faulty(x, " fly 2 0 1 1;", TOO_MANY, 1);
        faulty(x, "fly", TOO_MANY, 0);
        told(x, "row 1;fly 0 0 1 1;", 2);
        told(x, "fly 0 0 1 1;".repeat(7), 7);
        faulty(x, "row 1;" + "fly 0 0 1 1;".repeat(9), TOO_MANY, 6 + 8 * 12);
        due("count(2)", x.count(2), 8);
    }

    private static void ninthInRow() {
        says("3 in a row a ninth CUSTOMER (at it)");
        TruckWing x = withCustomers(2);
        told(x, "row" + " 1".repeat(8) + ";", 1);
        due("count(1)", x.count(1), 10);
        faulty(x, "row" + " 2".repeat(9) + ";", TOO_MANY, 20);
        faulty(x, "row" + " 2".repeat(12) + ";", TOO_MANY, 20);
        faulty(x, "row" + " 2".repeat(9), TOO_MANY, 20);
        due("count(1)", x.count(1), 10);
        told(x, "row 2;row" + " 1".repeat(8) + ";", 2);
    }

    private static void firstAlongTheText() {
        says("FAULTS .. the first along the text");
        TruckWing x = withCustomers(8);
        faulty(x, "to 1 1 1 1 1;;", TOO_MANY, 0);
        faulty(x, "row 9;to 1 1 1 1 1;", CANNOT_BE, 4);
        faulty(x, "set 10 1000;", CANNOT_BE, 4);
        faulty(x, "set 1000 10;", CANNOT_STAND, 4);
        faulty(x, "depot 51 51;", CANNOT_BE, 6);
        faulty(x, "depot 51;", CANNOT_BE, 6);
        faulty(x, "fly 2 10 9 10;", CANNOT_BE, 4);
        faulty(x, "fly 1 10 9 10;", CANNOT_BE, 6);
        faulty(x, "fly 1 9 9 10;", CANNOT_BE, 8);
        faulty(x, "fly 1 9 8 10;", CANNOT_BE, 10);
        faulty(x, "row" + " 1".repeat(7) + " 9 1 1;", CANNOT_BE, 18);
        faulty(x, "row 1 1 ?" + " 1".repeat(9) + ";", CANNOT_STAND, 8);
    }

    private static void ofOnePlaceTheLeast() {
        says("FAULTS .. of one place the least");
        TruckWing x = withCustomers(2);
        String eight = "row" + " 1".repeat(8);
        faulty(x, eight + " 1;", TOO_MANY, 20);
        faulty(x, eight + " 3;", CANNOT_BE, 20);
        faulty(x, eight + " 0;", CANNOT_BE, 20);
        faulty(x, eight + " -1;", CANNOT_BE, 20);
        faulty(x, eight + " 0001;", CANNOT_STAND, 20);
        faulty(x, eight + " -;", CANNOT_STAND, 20);
        faulty(x, eight + " row;", CANNOT_STAND, 20);
        faulty(x, eight, CANNOT_STAND, 19);
    }
}
