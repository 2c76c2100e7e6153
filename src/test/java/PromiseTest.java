import java.util.NoSuchElementException;

/** For each promise of the document, calls with answers worked out by hand from its words. */
public final class PromiseTest extends Check {
    public static void main(String[] args) {
        promise1();
        promise2();
        promise3();
        promise4();
        promise4Changes();
        promise4Tokens();
        promise5();
        promise5TooMany();
        promise6();
        promise7();
        promise8();
        promise9();
        promise10();
        promise11();
        promise12();
        promise13();
        promise14();
        promise15();
        promise16();
        promise17();
        promise17Order();
        promise18();
        promise19();
        promise20();
        promise20Catching();
        promise21();
        promise21Likes();
        promise22();
        promise23();
        promise23Battery();
        promise23Two();
        promise23Fewer();
        promise24();
        promise24Battery();
        promise24Likes();
        promise25();
        promise26();
        promise27();
        promise28();
        promise28First();
        neverThrows();
        finish();
    }

    /** Two customers: one light at (4, 0), one heavy at (0, 6). */
    private static TruckWing two() {
        TruckWing x = new TruckWing();
        x.customer(4, 0, 2, 1, 10);
        x.customer(0, 6, 3, 2, 60);
        return x;
    }

    /** Three light customers; the van serves 3, flyer 0 goes to 1, flyer 1 to 2, both from INDEX 0 to INDEX 1. */
    private static TruckWing meeting() {
        TruckWing x = new TruckWing();
        x.customer(10, 0, 5, 3, 1);
        x.customer(0, 10, 4, 2, 1);
        x.customer(10, 10, 6, 1, 1);
        x.set(0, 1);
        x.set(1, 3);
        x.set(6, 2);
        x.set(7, 3);
        x.set(8, 2);
        x.go(3);
        x.fly(0, 0, 1, 1);
        x.fly(1, 0, 2, 1);
        return x;
    }

    private static void promise1() {
        says("promise 1");
        TruckWing x = new TruckWing();
        int[] first = {3, 2, 0, 0, 50, 100, 1, 1, 1, 1};
        for (int k = 0; k < 10; k++) {
            due("count(" + (10 + k) + ")", x.count(10 + k), first[k]);
        }
        for (int k = 0; k < 5; k++) {
            due("place(0, " + k + ")", x.place(0, k), 0);
        }
        due("place(1, 0)", x.place(1, 0), -1);
        due("count(0)", x.count(0), 0);
        due("count(1)", x.count(1), 2);
        due("count(2)", x.count(2), 0);
        due("count(3)", x.count(3), 0);
        due("fault()", x.fault(), 0);
        due("wrong()", x.wrong(), 0);
        due("ends()", x.ends(), 0);
        due("stop(1, 0)", x.stop(1, 0), 0);
        due("event(-1, 0)", x.event(-1, 0), 2);
        due("NONE", TruckWing.NONE, -1);
    }

    private static void promise2() {
        says("promise 2");
        TruckWing x = new TruckWing();
        for (int k = 1; k <= 15; k++) {
            due("feed", x.feed(0x20202020, 0x20202020, 0x20202020, 0x20202020, 0x20202020), 20 * k);
        }
        due("feed beyond 300", x.feed(0, 0, 0, 0, 0), -1);
        due("count(3)", x.count(3), 300);
        x.end(281);
        due("feed beyond 300", x.feed(0, 0, 0, 0, 0), -1);
        due("count(3)", x.count(3), 281);
        x.end(280);
        due("feed up to 300", x.feed(0x73657420, 0x3020353b, 0x20202020, 0x20202020, 0x2020203b), 300);
        x.end(299);
        due("tell()", x.tell(), 1);
        due("count(10)", x.count(10), 5);
        due("feed of high bytes", x.feed(-1, -1, -1, -1, -1), 20);
        due("tell()", x.tell(), -1);
        due("fault()", x.fault(), 1);
    }

    private static void promise3() {
        says("promise 3");
        TruckWing x = new TruckWing();
        due("end(0)", x.end(0), true);
        due("end(1)", x.end(1), false);
        x.feed(0, 0, 0, 0, 0);
        due("end(-1)", x.end(-1), false);
        due("end(21)", x.end(21), false);
        due("end(MAX)", x.end(Integer.MAX_VALUE), false);
        due("end(MIN)", x.end(Integer.MIN_VALUE), false);
        due("count(3)", x.count(3), 20);
        due("end(20)", x.end(20), true);
        due("end(7)", x.end(7), true);
        due("count(3)", x.count(3), 7);
        due("end(8)", x.end(8), false);
        due("end(0)", x.end(0), true);
        due("count(3)", x.count(3), 0);
    }

    private static void promise4() {
        says("promise 4");
        TruckWing x = new TruckWing();
        told(x, "", 0);
        told(x, " \n ", 0);
        told(x, "depot 5 50;", 1);
        due("place(0, 0)", x.place(0, 0), 5);
        due("place(0, 1)", x.place(0, 1), 50);
        told(x, "to 1 2 3 4 5;\nto 50 50 30 30 99 ; to 0 0 0 0 0;", 3);
        for (int k = 0; k < 5; k++) {
            due("place(1, " + k + ")", x.place(1, k), k + 1);
        }
        due("place(2, 4)", x.place(2, 4), 99);
        due("count(0)", x.count(0), 3);
        told(x, "set 2 -3;set 5 999;set 5 999;", 3);
        due("count(12)", x.count(12), -3);
        due("count(15)", x.count(15), 999);
        told(x, "row 3 1 3 1 3 1 3 2;", 1);
        due("count(1)", x.count(1), 10);
        told(x, "row 1 2;fly 1 9 3 0;fly 0 0 1 9;", 3);
        due("count(1)", x.count(1), 4);
        due("count(2)", x.count(2), 2);
        due("sortie(0, 0)", x.sortie(0, 0), 1);
        due("sortie(0, 1)", x.sortie(0, 1), 9);
        due("sortie(0, 2)", x.sortie(0, 2), 3);
        due("sortie(0, 3)", x.sortie(0, 3), 0);
        told(x, "fly 0 1 2 2;", 1);
        due("count(2)", x.count(2), 3);
        told(x, "row ;", 1);
        due("count(1)", x.count(1), 2);
        due("count(2)", x.count(2), 0);
    }

    private static void promise4Changes() {
        says("promise 4");
        TruckWing x = two();
        x.go(1);
        x.fly(0, 0, 2, 1);
        faulty(x, "depot 9 9;to 1 1 1 1 1;set 0 9;row 2 2;fly 1 1 1 1;to", 1, 53);
        due("count(0)", x.count(0), 2);
        due("count(1)", x.count(1), 3);
        due("count(2)", x.count(2), 1);
        due("count(10)", x.count(10), 3);
        due("place(0, 0)", x.place(0, 0), 0);
        due("sortie(0, 2)", x.sortie(0, 2), 2);
        due("stop place in a right plan", rightAgain(x), 2);
        due("best() ahead", x.best(), 41);
        told(x, "set 8 0;", 1);
        due("best() behind a text", x.best(), 65);
        told(x, "depot 4 0;set 8 1;", 2);
        due("best() behind a moved DEPOT: 30 there, 3, 30 back, less 1 to", x.best(), 65);
    }

    private static int rightAgain(TruckWing x) {
        x.undo(false);
        x.go(2);
        return x.stop(2, 0);
    }

    private static void promise4Tokens() {
        says("promise 4");
        TruckWing x = new TruckWing();
        told(x, "to1 1 1 1 1;to 2-0 2 2 2;row1 2;set 2-1;set 3\n-\u0031;fly0 0 1 1;", 6);
        due("count(12)", x.count(12), -1);
        due("count(13)", x.count(13), -1);
        due("place(2, 1)", x.place(2, 1), 0);
        told(x, "set 0 004;set 0 05;set 4 -00;", 3);
        due("count(10)", x.count(10), 5);
        due("count(14)", x.count(14), 0);
        StringBuilder whole = new StringBuilder();
        while (whole.length() < 300) {
            whole.append("row;");
        }
        told(x, whole.toString(), 75);
    }

    private static void promise5() {
        says("promise 5");
        TruckWing x = two();
        due("fault() ahead of any", x.fault(), 0);
        faulty(x, ";", 1, 0);
        faulty(x, "Depot 1 1;", 1, 0);
        faulty(x, "todepot 1 1;", 1, 0);
        faulty(x, "t 1 1;", 1, 0);
        faulty(x, "  5;", 1, 2);
        faulty(x, "depot\t1 1;", 1, 5);
        faulty(x, "depot 1;", 1, 7);
        faulty(x, "depot 1 2 3;", 1, 10);
        faulty(x, "depot 1 2", 1, 9);
        faulty(x, "depot 1 2  \n", 1, 12);
        faulty(x, "depot 1 to;", 1, 8);
        faulty(x, "depot 51 0;", 2, 6);
        faulty(x, "depot 0 -1;", 2, 8);
        faulty(x, "to 1 1 31 0 0;", 2, 7);
        faulty(x, "to 1 1 0 31 0;", 2, 9);
        faulty(x, "to 1 1 0 0 100;", 2, 11);
        faulty(x, "to 1 1 0 0 ;", 1, 11);
        faulty(x, "set 10 1;", 2, 4);
        faulty(x, "set -1 1;", 2, 4);
        faulty(x, "set 5 0;", 2, 6);
        faulty(x, "set 5 1000;", 1, 6);
        faulty(x, "set 5 -1000;", 1, 6);
        faulty(x, "set 5 0999;", 1, 6);
        faulty(x, "set 2 --1;", 1, 6);
        faulty(x, "set 2 -;", 1, 6);
        faulty(x, "set 2 - 1;", 1, 6);
        faulty(x, "set 8 3;", 2, 6);
        faulty(x, "set 9 2;", 2, 6);
        faulty(x, "row 0;", 2, 4);
        faulty(x, "row 1 3;", 2, 6);
        faulty(x, "row 1 2 row;", 1, 8);
        faulty(x, "row 1", 1, 5);
        faulty(x, "fly 2 0 1 1;", 2, 4);
        faulty(x, "fly 0 10 1 1;", 2, 6);
        faulty(x, "fly 0 0 3 1;", 2, 8);
        faulty(x, "fly 0 0 1 10;", 2, 10);
        faulty(x, "set 0 4;set 0 0;go", 2, 14);
        faulty(x, "row\u00e91;", 1, 3);
        told(x, "row 1;", 1);
    }

    private static void promise5TooMany() {
        says("promise 5");
        TruckWing x = new TruckWing();
        x.customer(1, 1, 1, 1, 1);
        told(x, "row 1 1 1 1 1 1 1 1;", 1);
        faulty(x, "row 1 1 1 1 1 1 1 1 1;", 3, 20);
        faulty(x, "row 1 1 1 1 1 1 1 1 2;", 2, 20);
        faulty(x, "row 1 1 1 1 1 1 1 1 1111;", 1, 20);
        for (int k = 0; k < 8; k++) {
            told(x, "fly 0 0 1 1;", 1);
        }
        faulty(x, "  fly;", 3, 2);
        told(x, "row;fly 0 0 1 1;", 2);
        for (int k = 0; k < 6; k++) {
            x.customer(1, 1, 1, 1, 1);
        }
        faulty(x, "to 1 1 1 1 1;to 99 1 1 1 1;", 3, 13);
        due("count(0)", x.count(0), 7);
        told(x, "to 1 1 1 1 1;row 8;", 2);
        due("count(0)", x.count(0), 8);
        faulty(x, "to", 3, 0);
    }

    private static void promise6() {
        says("promise 6");
        TruckWing x = new TruckWing();
        due("x 51", x.customer(51, 0, 0, 0, 0), -1);
        due("y -1", x.customer(0, -1, 0, 0, 0), -1);
        due("service 31", x.customer(0, 0, 31, 0, 0), -1);
        due("drop 31", x.customer(0, 0, 0, 31, 0), -1);
        due("weight 100", x.customer(0, 0, 0, 0, 100), -1);
        due("weight MIN", x.customer(0, 0, 0, 0, Integer.MIN_VALUE), -1);
        due("count(0)", x.count(0), 0);
        for (int k = 1; k <= 8; k++) {
            due("customer", x.customer(50, 50, 30, 30, 99), k);
        }
        due("a ninth", x.customer(0, 0, 0, 0, 0), -2);
        due("a ninth that can't be", x.customer(51, 0, 0, 0, 0), -1);
        due("count(0)", x.count(0), 8);
    }

    private static void promise7() {
        says("promise 7");
        TruckWing x = two();
        x.go(1);
        x.fly(0, 0, 2, 1);
        due("best() ahead", x.best(), 41);
        due("drop()", x.drop(), 1);
        due("count(1)", x.count(1), 2);
        due("count(2)", x.count(2), 0);
        due("best() behind", x.best(), 19);
        due("place(2, 0)", x.place(2, 0), -1);
        due("go(2)", x.go(2), -1);
        due("drop()", x.drop(), 0);
        due("drop()", x.drop(), -1);
        due("customer", x.customer(7, 7, 7, 7, 7), 1);
        due("place(1, 2)", x.place(1, 2), 7);
    }

    private static void promise8() {
        says("promise 8");
        TruckWing x = new TruckWing();
        int[] least = {1, 1, -3, -3, 0, 1, 0, 0, 0, 0};
        int[] most = {9, 9, 3, 3, 99, 999, 9, 9, 2, 1};
        for (int s = 0; s < 10; s++) {
            due("below", x.set(s, least[s] - 1), false);
            due("above", x.set(s, most[s] + 1), false);
            due("least", x.set(s, least[s]), true);
            due("most", x.set(s, most[s]), true);
            due("most again", x.set(s, most[s]), false);
            due("count", x.count(10 + s), most[s]);
        }
        due("set(-1, 1)", x.set(-1, 1), false);
        due("set(10, 1)", x.set(10, 1), false);
        due("set(MAX, 1)", x.set(Integer.MAX_VALUE, 1), false);
        TruckWing y = new TruckWing();
        due("set(0, 3) as it is", y.set(0, 3), false);
    }

    private static void promise9() {
        says("promise 9");
        TruckWing x = two();
        x.fly(0, 0, 1, 1);
        due("go(0)", x.go(0), -1);
        due("go(3)", x.go(3), -1);
        due("go(-1)", x.go(-1), -1);
        for (int k = 3; k <= 10; k++) {
            due("go(2)", x.go(2), k);
        }
        due("go(1) with ten", x.go(1), -2);
        due("go(3) with ten", x.go(3), -1);
        due("count(1)", x.count(1), 10);
        due("count(2)", x.count(2), 1);
        TruckWing y = two();
        y.go(2);
        y.go(1);
        due("stop(1, 0)", y.stop(1, 0), 2);
        due("stop(2, 0)", y.stop(2, 0), 1);
        due("stop(3, 0)", y.stop(3, 0), 0);
    }

    private static void promise10() {
        says("promise 10");
        TruckWing x = two();
        due("flyer 2", x.fly(2, 0, 1, 1), -1);
        due("flyer -1", x.fly(-1, 0, 1, 1), -1);
        due("from -1", x.fly(0, -1, 1, 1), -1);
        due("from 10", x.fly(0, 10, 1, 1), -1);
        due("customer 0", x.fly(0, 0, 0, 1), -1);
        due("customer 3", x.fly(0, 0, 3, 1), -1);
        due("at 10", x.fly(0, 0, 1, 10), -1);
        due("at -1", x.fly(0, 0, 1, -1), -1);
        for (int k = 0; k < 8; k++) {
            due("fly", x.fly(1, 9, 2, 0), k);
        }
        due("a ninth", x.fly(0, 0, 1, 1), -2);
        due("a ninth that can't be", x.fly(2, 0, 1, 1), -1);
        due("count(2)", x.count(2), 8);
    }

    private static void promise11() {
        says("promise 11");
        TruckWing x = two();
        due("undo(true)", x.undo(true), -1);
        due("undo(false)", x.undo(false), -1);
        x.go(1);
        x.go(2);
        x.fly(0, 0, 1, 1);
        x.fly(1, 0, 2, 2);
        due("undo(false)", x.undo(false), 1);
        due("sortie(0, 2)", x.sortie(0, 2), 1);
        due("undo(false)", x.undo(false), 0);
        due("undo(false)", x.undo(false), -1);
        due("count(1)", x.count(1), 4);
        due("undo(true)", x.undo(true), 1);
        due("wrong(): 2 by nobody", x.wrong(), 3 + 16 * 2);
        due("undo(true)", x.undo(true), 0);
        due("undo(true)", x.undo(true), -1);
        due("count(1)", x.count(1), 2);
    }

    private static void promise12() {
        says("promise 12");
        TruckWing x = two();
        x.go(1);
        x.fly(0, 0, 2, 1);
        x.feed(0, 0, 0, 0, 0);
        x.clear();
        due("count(1)", x.count(1), 2);
        due("count(2)", x.count(2), 0);
        due("count(0)", x.count(0), 2);
        due("count(3)", x.count(3), 20);
        x.clear();
        due("count(1)", x.count(1), 2);
    }

    private static void promise13() {
        says("promise 13");
        TruckWing x = two();
        x.go(1);
        x.fly(0, 0, 1, 1);
        x.fly(0, 0, 1, 1);
        x.feed(0, 0, 0, 0, 0);
        x.set(9, 0);
        due("count(0)", x.count(0), 2);
        due("count(1)", x.count(1), 3);
        due("count(2)", x.count(2), 2);
        due("count(3)", x.count(3), 20);
        due("count(10)", x.count(10), 3);
        due("count(19)", x.count(19), 0);
        for (int what : new int[] {-1, 4, 9, 20, Integer.MAX_VALUE, Integer.MIN_VALUE}) {
            due("count(" + what + ")", x.count(what), -99);
        }
    }

    private static void promise14() {
        says("promise 14");
        TruckWing x = new TruckWing();
        x.customer(1, 2, 3, 4, 5);
        for (int what = 0; what < 5; what++) {
            due("place(1, " + what + ")", x.place(1, what), what + 1);
        }
        due("place(1, 5)", x.place(1, 5), -1);
        due("place(1, -1)", x.place(1, -1), -1);
        due("place(2, 0)", x.place(2, 0), -1);
        due("place(-1, 0)", x.place(-1, 0), -1);
        due("place(MAX, 0)", x.place(Integer.MAX_VALUE, 0), -1);
        told(x, "depot 8 9;", 1);
        int[] depot = {8, 9, 0, 0, 0};
        for (int what = 0; what < 5; what++) {
            due("place(0, " + what + ")", x.place(0, what), depot[what]);
        }
    }

    private static void promise15() {
        says("promise 15");
        TruckWing x = new TruckWing();
        x.customer(4, 1, 0, 0, 0);
        x.customer(2, 7, 0, 0, 0);
        x.customer(2, 7, 0, 0, 0);
        due("drive 1, 2", x.way(1, 2, false), 24);
        due("drive 2, 1", x.way(2, 1, false), 24);
        due("flight 1, 2", x.way(1, 2, true), 12);
        due("drive to itself", x.way(2, 2, false), 0);
        due("flight to itself", x.way(2, 2, true), 0);
        due("drive 2, 3", x.way(2, 3, false), 0);
        due("flight between two at one spot", x.way(2, 3, true), 1);
        x.set(0, 9);
        x.set(1, 5);
        x.set(2, 3);
        x.set(3, -2);
        due("drive 1, 2", x.way(1, 2, false), 72);
        due("flight 1, 2: 30 - 3 * -2 + 2 * 6", x.way(1, 2, true), 48);
        due("flight 2, 1: 30 - 3 * 2 + 2 * -6", x.way(2, 1, true), 12);
        x.set(1, 1);
        due("flight 2, 1: 6 - 6 - 12, 1 at least", x.way(2, 1, true), 1);
        due("way(0, 4)", x.way(0, 4, true), -1);
        due("way(4, 0)", x.way(4, 0, false), -1);
        due("way(-1, 0)", x.way(-1, 0, false), -1);
        due("way(4, 4)", x.way(4, 4, true), -1);
    }

    private static void promise16() {
        says("promise 16");
        TruckWing x = two();
        x.fly(1, 2, 1, 3);
        x.fly(0, 7, 2, 4);
        due("sortie(0, 0)", x.sortie(0, 0), 1);
        due("sortie(0, 1)", x.sortie(0, 1), 2);
        due("sortie(0, 2)", x.sortie(0, 2), 1);
        due("sortie(0, 3)", x.sortie(0, 3), 3);
        due("sortie(1, 1)", x.sortie(1, 1), 7);
        int[][] none = {{2, 0}, {-1, 0}, {0, 4}, {0, -1}, {Integer.MAX_VALUE, 0}, {8, 0}, {Integer.MIN_VALUE, 9}};
        for (int[] k : none) {
            boolean thrown = false;
            try {
                x.sortie(k[0], k[1]);
            } catch (NoSuchElementException e) {
                thrown = true;
            }
            due("sortie(" + k[0] + ", " + k[1] + ") throws", thrown, true);
        }
    }

    private static void promise17() {
        says("promise 17");
        TruckWing x = two();
        due("nobody serves 1", x.wrong(), 3 + 16);
        x.go(1);
        due("nobody serves 2", x.wrong(), 3 + 32);
        x.go(2);
        due("right", x.wrong(), 0);
        x.go(2);
        due("2 twice", x.wrong(), 2 + 32);
        x.undo(true);
        x.fly(0, 0, 1, 1);
        due("1 twice", x.wrong(), 2 + 16);
        x.undo(false);
        x.fly(0, 0, 1, 4);
        due("no INDEX 4", x.wrong(), 1);
        x.undo(false);
        x.fly(0, 4, 1, 3);
        due("no INDEX 4", x.wrong(), 1);
        x.undo(false);
        x.fly(0, 2, 1, 2);
        due("ends where it begins", x.wrong(), 1);
        x.undo(false);
        x.undo(true);
        x.fly(0, 0, 2, 2);
        due("too heavy", x.wrong(), 4);
        x.set(4, 60);
        due("LIGHT with WEIGHT LIFT", x.wrong(), 0);
        x.set(4, 59);
        due("too heavy", x.wrong(), 4);
        x.set(4, 60);
        x.set(5, 26);
        due("AIR is BATTERY", x.wrong(), 0);
        x.set(5, 25);
        due("AIR is above BATTERY", x.wrong(), 6);
        x.set(8, 0);
        due("no FLYER 0", x.wrong(), 1);
    }

    /** Which kind, and of one kind which number, is told first. */
    private static void promise17Order() {
        says("promise 17");
        TruckWing x = new TruckWing();
        for (int k = 1; k <= 4; k++) {
            x.customer(k, 0, 0, 0, k == 4 ? 90 : 10);
        }
        x.set(5, 1);
        x.fly(0, 0, 3, 1);
        x.fly(0, 0, 4, 1);
        x.fly(1, 0, 2, 1);
        x.fly(1, 0, 2, 1);
        due("1 ahead of all", x.wrong(), 1 + 16 * 2);
        x.set(8, 2);
        due("2 ahead of 3", x.wrong(), 2 + 16 * 2);
        x.undo(false);
        due("3 ahead of 4", x.wrong(), 3 + 16);
        x.go(1);
        due("4 ahead of 5", x.wrong(), 4 + 16);
        x.set(4, 99);
        due("5 ahead of 6", x.wrong(), 5 + 16);
        due("no times", x.ends(), -1);
        x.clear();
        x.go(1);
        x.fly(0, 1, 3, 2);
        x.fly(0, 0, 4, 1);
        x.fly(1, 0, 2, 2);
        due("6, the least: beside each other is no overlap", x.wrong(), 6);
        due("times", x.ends() >= 0, true);
        x.clear();
        x.go(1);
        x.go(2);
        x.fly(0, 1, 3, 2);
        x.fly(0, 0, 4, 3);
        due("5: one around another", x.wrong(), 5 + 16);
    }

    private static void promise18() {
        says("promise 18");
        TruckWing x = meeting();
        due("ends()", x.ends(), 91);
        x.set(7, 1);
        due("ends()", x.ends(), 87);
        x.undo(false);
        due("ends() of a wrong plan", x.ends(), -1);
        TruckWing y = two();
        y.go(1);
        y.go(2);
        due("12 + 2 + 30 + 3 + 18", y.ends(), 65);
        y.undo(true);
        y.set(4, 60);
        y.fly(0, 0, 2, 2);
        due("caught at the DEPOT: 1 + 12 + 2 + 12 + 1", y.ends(), 28);
        y.set(5, 1);
        due("times of a plan that is wrong by 6", y.ends(), 28);
    }

    private static void promise19() {
        says("promise 19");
        TruckWing x = meeting();
        int[][] due = {{0, 0, 0, 4, 0}, {3, 24, 71, 71, 35}, {0, 91, 91, 91, 0}};
        for (int index = 0; index < 3; index++) {
            for (int what = 0; what < 5; what++) {
                due("stop(" + index + ", " + what + ")", x.stop(index, what), due[index][what]);
            }
        }
        due("stop(3, 0)", x.stop(3, 0), -1);
        due("stop(-1, 0)", x.stop(-1, 0), -1);
        due("stop(10, 0)", x.stop(10, 0), -1);
        due("stop(0, 5)", x.stop(0, 5), -1);
        due("stop(0, -1)", x.stop(0, -1), -1);
        x.set(8, 1);
        due("stop(0, 0) of a wrong plan", x.stop(0, 0), -1);
        TruckWing y = two();
        y.set(4, 60);
        y.go(1);
        y.fly(0, 0, 2, 2);
        due("WAIT at the last one: comes at 27, the van has come at 27", y.stop(2, 4), 0);
        y.set(0, 1);
        due("WAIT at the last one: the van has come at 11", y.stop(2, 4), 16);
        due("LEAVES at the last one", y.stop(2, 3), 28);
    }

    private static void promise20() {
        says("promise 20");
        TruckWing x = meeting();
        int[][] due = {{2, 65, 63, 0}, {4, 66, 64, 2}};
        for (int k = 0; k < 2; k++) {
            for (int what = 0; what < 4; what++) {
                due("flown(" + k + ", " + what + ")", x.flown(k, what), due[k][what]);
            }
        }
        x.set(9, 0);
        due("AIR without HOVER", x.flown(1, 2), 62);
        due("at its end", x.flown(1, 3), 2);
        due("flown(2, 0)", x.flown(2, 0), -1);
        due("flown(-1, 0)", x.flown(-1, 0), -1);
        due("flown(0, 4)", x.flown(0, 4), -1);
        due("flown(0, -1)", x.flown(0, -1), -1);
        x.go(1);
        due("flown of a wrong plan", x.flown(0, 0), -1);
    }

    /** Of like ones FLYER 0 is caught first, and launched first, though its SORTIE has the greater number. */
    private static void promise20Catching() {
        says("promise 20");
        TruckWing x = new TruckWing();
        x.customer(10, 0, 0, 0, 0);
        x.customer(0, 10, 0, 0, 0);
        x.customer(10, 10, 0, 0, 0);
        x.set(8, 2);
        x.set(6, 0);
        x.set(7, 4);
        x.go(3);
        x.fly(1, 0, 1, 1);
        x.fly(0, 0, 2, 1);
        due("both come", x.flown(0, 1) == x.flown(1, 1), true);
        due("the van serves till 60, FLYER 0", x.flown(1, 3), 60 - 40);
        due("FLYER 1", x.flown(0, 3), 64 - 40);
        x.set(6, 5);
        due("FLYER 0 leaves", x.flown(1, 0), 5);
        due("FLYER 1 leaves", x.flown(0, 0), 10);
        x.clear();
        told(x, "to 12 10 0 0 0;set 6 0;row 3 4;fly 1 0 1 1;fly 0 0 2 2;", 5);
        due("the earlier end is caught on its own", x.flown(0, 3), 20);
        due("the later one: 0 to 2 to 4 is 20 + 24, the van comes at 70", x.flown(1, 3), 70 - 44);
    }

    private static void promise21() {
        says("promise 21");
        TruckWing x = meeting();
        int[][] due = {{0, 0, 0, -1}, {2, 3, 0, 0}, {4, 3, 0, 1}, {24, 0, 3, -1}, {30, 1, 3, -1}, {35, 4, 1, 0},
            {36, 4, 2, 1}, {68, 2, 3, 0}, {71, 2, 3, 1}, {91, 0, 0, -1}};
        due("event(-1, 0)", x.event(-1, 0), due.length);
        for (int k = 0; k < due.length; k++) {
            for (int what = 0; what < 4; what++) {
                due("event(" + k + ", " + what + ")", x.event(k, what), due[k][what]);
            }
        }
        due("event(10, 0)", x.event(10, 0), -2);
        due("event(-2, 0)", x.event(-2, 0), -2);
        due("event(-1, 1)", x.event(-1, 1), -2);
        due("event(0, 4)", x.event(0, 4), -2);
        due("event(0, -1)", x.event(0, -1), -2);
        x.set(5, 1);
        due("event(-1, 0) of a plan that is wrong by 6", x.event(-1, 0), 10);
        x.set(8, 1);
        due("event(-1, 0) of a wrong plan", x.event(-1, 0), -2);
        due("event(0, 0) of a wrong plan", x.event(0, 0), -2);
    }

    /** Of like minutes by kind, then by PLACE, then by FLYER. */
    private static void promise21Likes() {
        says("promise 21");
        TruckWing x = new TruckWing();
        x.customer(5, 0, 0, 0, 0);
        x.customer(0, 5, 0, 0, 0);
        x.customer(0, 0, 0, 0, 0);
        x.set(8, 2);
        x.set(6, 0);
        x.set(7, 0);
        x.go(3);
        x.fly(1, 0, 1, 1);
        x.fly(0, 0, 2, 1);
        int[][] due = {{0, 0, 0, -1}, {0, 0, 3, -1}, {0, 1, 3, -1}, {0, 3, 0, 0}, {0, 3, 0, 1}, {10, 4, 1, 1},
            {10, 4, 2, 0}, {20, 0, 0, -1}, {20, 2, 3, 0}, {20, 2, 3, 1}};
        due("event(-1, 0)", x.event(-1, 0), due.length);
        for (int k = 0; k < due.length; k++) {
            for (int what = 0; what < 4; what++) {
                due("event(" + k + ", " + what + ")", x.event(k, what), due[k][what]);
            }
        }
    }

    private static void promise22() {
        says("promise 22");
        TruckWing x = meeting();
        due("waits", x.sum(0), 35);
        due("drives", x.sum(1), 40);
        due("fly", x.sum(2), 120);
        due("at their ends", x.sum(3), 2);
        due("sum(4)", x.sum(4), -1);
        due("sum(-1)", x.sum(-1), -1);
        x.set(9, 0);
        due("at their ends without HOVER", x.sum(3), 2);
        x.undo(true);
        due("sum(0) of a wrong plan", x.sum(0), -1);
        TruckWing y = new TruckWing();
        for (int what = 0; what < 4; what++) {
            due("sum of the first plan", y.sum(what), 0);
        }
    }

    private static void promise23() {
        says("promise 23");
        TruckWing x = new TruckWing();
        due("split(0), n 0", x.split(0), 0);
        due("split(1), n 0", x.split(1), -1);
        due("split(-1), n 0", x.split(-1), -1);
        x.customer(4, 0, 2, 1, 10);
        due("split(0), n 1", x.split(0), -1);
        due("1 + 8 + 1 + 8 + 1", x.split(1), 19);
        due("split(2), n 1", x.split(2), -1);
        x.customer(0, 6, 3, 2, 60);
        due("split(12)", x.split(12), 41);
        due("split(21)", x.split(21), 41);
        for (int order : new int[] {0, 1, 2, 11, 22, 13, 10, 20, 120, 102, 112, -12, 1212, Integer.MAX_VALUE,
            Integer.MIN_VALUE}) {
            due("split(" + order + ")", x.split(order), -1);
        }
        x.set(8, 0);
        due("without FLYERS", x.split(12), 65);
        due("the plan stays", x.count(1), 2);
        for (int k = 3; k <= 8; k++) {
            x.customer(0, 0, 0, 0, 99);
        }
        due("split(12345678)", x.split(12345678), 65);
        due("split(87654321)", x.split(87654321), 65);
        due("split(123456789)", x.split(123456789), -1);
    }

    private static void promise23Battery() {
        says("promise 23");
        TruckWing x = two();
        x.set(5, 21);
        due("AIR 21", x.split(12), 41);
        x.set(5, 20);
        due("AIR 21 is above 20; with HOVER none lasts", x.split(12), 65);
        x.set(9, 0);
        due("without HOVER 17 from the DEPOT to it, the van 37 and CATCH", x.split(12), 41);
        x.set(5, 16);
        due("17 is above 16", x.split(12), 65);
        TruckWing y = meeting();
        due("3 flown: 2 + 30 + 1 + 30 + 3", y.split(123), 66);
        y.set(1, 1);
        due("1 and 3 flown: the van 2 + 2 + 10 + 4 + 10, and CATCH twice", y.split(123), 34);
        y.set(8, 1);
        due("3 flown: the van 2 + 10 + 5 + 20 + 4 + 10, and CATCH", y.split(123), 54);
    }

    /** Two that stand beside each other in the ORDER are flown, and the van drives past both. */
    private static void promise23Two() {
        says("promise 23");
        String flown = "to 10 0 10 0 0;to 0 10 10 0 0;set 1 1;set 6 2;set 7 3;set 8 2;";
        TruckWing x = new TruckWing();
        told(x, flown + "to 1 1 0 0 99;", 7);
        due("back at the DEPOT at 22 and 24, caught till 25 and 28", x.split(123), 28);
        due("take(123)", x.take(123), 2);
        due("caught at the DEPOT", x.sortie(0, 3), 2);
        due("FLYER 1 flies to 2", x.sortie(1, 2), 2);
        x.set(7, 0);
        due("FLYER 1 leaves at 4 and is back at 24", x.split(123), 24);
        TruckWing y = new TruckWing();
        told(y, flown + "to 1 1 20 0 99;", 7);
        due("the van 4 + 6 + 20 + 6, and CATCH twice", y.split(123), 42);
        due("take(123)", y.take(123), 2);
        due("the last BLOCK begins latest: caught at 3", y.sortie(0, 3), 1);
    }

    /** An ORDER of fewer CUSTOMERS than the one ahead. */
    private static void promise23Fewer() {
        says("promise 23");
        TruckWing x = two();
        x.customer(9, 9, 9, 9, 99);
        due("split(123): 1 + 18 + 3 + 1 + 36 + 9 + 54", x.split(123), 122);
        x.drop();
        due("split(12)", x.split(12), 41);
        due("split(123)", x.split(123), -1);
        x.drop();
        due("split(1)", x.split(1), 19);
        x.drop();
        due("split(0)", x.split(0), 0);
    }

    private static void promise24() {
        says("promise 24");
        TruckWing x = two();
        x.go(1);
        x.fly(1, 9, 1, 9);
        due("take(11)", x.take(11), -1);
        due("take(-1)", x.take(-1), -1);
        due("the plan stays", x.count(1), 3);
        due("the plan stays", x.sortie(0, 1), 9);
        due("take(12)", x.take(12), 1);
        due("count(1)", x.count(1), 3);
        due("stop(1, 0)", x.stop(1, 0), 2);
        int[] due = {0, 0, 1, 1};
        for (int what = 0; what < 4; what++) {
            due("sortie(0, " + what + ")", x.sortie(0, what), due[what]);
        }
        due("ends()", x.ends(), 41);
        x.set(8, 0);
        due("take(21) without FLYERS", x.take(21), 0);
        due("stop(1, 0)", x.stop(1, 0), 2);
        due("stop(2, 0)", x.stop(2, 0), 1);
        due("ends()", x.ends(), 65);
        TruckWing y = new TruckWing();
        due("take(0), n 0", y.take(0), 0);
        due("take(1), n 0", y.take(1), -1);
    }

    /** Both come back at 9 while the van is there: FLYER 0, launched first, is caught first. */
    private static void promise24Battery() {
        says("promise 24");
        TruckWing x = new TruckWing();
        x.customer(1, 0, 30, 5, 0);
        x.customer(0, 1, 30, 3, 0);
        x.set(6, 2);
        x.set(7, 5);
        x.set(8, 2);
        x.set(1, 1);
        due("both flown: they come back at 9, FLYER 0 is caught till 14, FLYER 1 till 19", x.take(12), 2);
        due("ends()", x.ends(), 19);
        due("FLYER 0", x.flown(0, 2), 7);
        due("FLYER 1", x.flown(1, 2), 10);
        x.set(5, 10);
        due("AIR 7 and 10; the other way round it would be 5 and 12", x.take(12), 2);
        x.set(5, 9);
        due("AIR 10 is above 9", x.take(12) < 2, true);
    }

    /** Several plans with the least END. */
    private static void promise24Likes() {
        says("promise 24");
        TruckWing x = new TruckWing();
        x.customer(0, 0, 2, 0, 0);
        x.set(6, 0);
        x.set(7, 0);
        due("2 by the van, 2 by a flyer: the fewest SORTIES", x.take(1), 0);
        due("ends()", x.ends(), 2);
        x.drop();
        x.customer(0, 0, 3, 0, 0);
        x.customer(0, 0, 3, 0, 0);
        due("one of them flown", x.take(12), 1);
        due("ends()", x.ends(), 3);
        due("the last BLOCK begins latest: at 2, so 1 is flown", x.sortie(0, 2), 1);
        due("and ends at the STOP of 2", x.sortie(0, 3), 1);
        x.drop();
        x.drop();
        x.customer(1, 0, 9, 10, 0);
        x.customer(1, 0, 9, 10, 0);
        due("one of them flown", x.take(12), 1);
        due("ends(): the van 3 + 9 + 3, the flyer 2 + 10 + 2", x.ends(), 15);
        due("the least set", x.sortie(0, 2), 1);
        due("at the DEPOT", x.sortie(0, 3), 2);
        due("one of them flown", x.take(21), 1);
        due("the least set of the other ORDER", x.sortie(0, 2), 2);
    }

    private static void promise25() {
        says("promise 25");
        TruckWing x = new TruckWing();
        due("best(), n 0", x.best(), 0);
        x.customer(5, 0, 1, 0, 99);
        x.customer(1, 0, 1, 0, 99);
        x.customer(3, 0, 1, 0, 99);
        due("there and back", x.best(), 33);
        x.set(0, 1);
        due("best() behind set", x.best(), 13);
        due("the plan stays", x.count(1), 2);
        for (int k = 4; k <= 7; k++) {
            x.customer(2, 0, 1, 0, 99);
        }
        due("best(), n 7", x.best(), 17);
        x.customer(2, 0, 1, 0, 99);
        due("best(), n 8", x.best(), -1);
        x.drop();
        due("best(), n 7", x.best(), 17);
    }

    private static void promise26() {
        says("promise 26");
        TruckWing x = new TruckWing();
        due("bestOrder(), n 0", x.bestOrder(), 0);
        x.customer(5, 0, 1, 0, 99);
        due("bestOrder(), n 1", x.bestOrder(), 1);
        x.customer(1, 0, 1, 0, 99);
        x.customer(3, 0, 1, 0, 99);
        due("123 would turn twice, 132 and others would not", x.bestOrder(), 132);
        for (int k = 4; k <= 7; k++) {
            x.customer(2, 0, 1, 0, 99);
        }
        due("bestOrder(), n 7", x.bestOrder(), 1345672);
        x.customer(2, 0, 1, 0, 99);
        due("bestOrder(), n 8", x.bestOrder(), -1);
        TruckWing y = two();
        due("of several the first", y.bestOrder(), 12);
    }

    private static void promise27() {
        says("promise 27");
        TruckWing x = two();
        due("alone(0)", x.alone(0), 65);
        due("alone(1)", x.alone(1), 12);
        due("alone(2)", x.alone(2), -1);
        due("alone(-1)", x.alone(-1), -1);
        due("best() beside it", x.best(), 41);
        due("FLYERS stay", x.count(18), 1);
        x.set(0, 1);
        due("alone(0) behind set", x.alone(0), 25);
        x.customer(4, 6, 0, 0, 0);
        due("alone(0): round the square", x.alone(0), 25);
        due("alone(1): 1, 3, 2", x.alone(1), 132);
        TruckWing y = new TruckWing();
        due("alone(0), n 0", y.alone(0), 0);
        due("alone(1), n 0", y.alone(1), 0);
        for (int k = 1; k <= 7; k++) {
            y.customer(k, k, 0, 0, 0);
        }
        due("alone(0), n 7", y.alone(0), 84);
        due("alone(1), n 7", y.alone(1), 1234567);
        y.customer(8, 8, 0, 0, 0);
        due("alone(0), n 8", y.alone(0), -1);
        due("alone(1), n 8", y.alone(1), -1);
    }

    private static void promise28() {
        says("promise 28");
        TruckWing x = new TruckWing();
        x.customer(10, 0, 30, 0, 0);
        x.customer(10, 10, 0, 0, 99);
        x.set(0, 1);
        x.set(6, 0);
        x.set(7, 0);
        x.set(5, 30);
        int[] due = {70, 70, 70, 70, 70, 50, 70, 50, 40};
        for (int w = 0; w < 9; w++) {
            due("wind(12, " + w + ")", x.wind(12, w), due[w]);
        }
        due("the best wind", x.wind(12, -1), 8);
        x.set(2, 1);
        due("another WIND now", x.wind(12, 4), 70);
        due("WIND stays", x.count(12), 1);
        due("WIND stays", x.split(12), 50);
        for (int w : new int[] {9, -2, Integer.MAX_VALUE, Integer.MIN_VALUE}) {
            due("wind(12, " + w + ")", x.wind(12, w), -1);
        }
        due("wind(11, 0)", x.wind(11, 0), -1);
        due("wind(1, -1)", x.wind(1, -1), -1);
        x.drop();
        x.customer(10, 10, 10, 0, 99);
        due("wind(12, 8) with SERVICE", x.wind(12, 8), 50);
        due("the first of several", x.wind(12, -1), 5);
        TruckWing y = new TruckWing();
        due("wind(0, -1), n 0", y.wind(0, -1), 0);
        due("wind(0, 3), n 0", y.wind(0, 3), 0);
        due("wind(0, 9), n 0", y.wind(0, 9), -1);
    }

    /** The flyer goes round a corner, so that only the WIND 0, -1 helps on both of its ways. */
    private static void promise28First() {
        says("promise 28");
        TruckWing x = new TruckWing();
        told(x, "depot 0 10;to 5 5 30 30 0;to 0 0 0 0 99;to 40 0 0 0 99;", 4);
        told(x, "set 0 1;set 1 1;set 5 40;set 6 0;set 7 0;", 5);
        int[] due = {126, 122, 126, 140, 130, 140, 140, 140, 140};
        for (int w = 0; w < 9; w++) {
            due("wind(123, " + w + ")", x.wind(123, w), due[w]);
        }
        due("neither the first nor the last one", x.wind(123, -1), 1);
        x.set(5, 35);
        due("AIR 32 with WIND 1 alone", x.wind(123, -1), 1);
        x.set(5, 31);
        due("none lasts: all are alike", x.wind(123, -1), 0);
    }

    /** Odd arguments in odd states: what is thrown, but for sortie's, ends the test. */
    private static void neverThrows() {
        says("promise 0");
        int[] odd = {Integer.MIN_VALUE, -100, -2, -1, 0, 1, 2, 7, 8, 9, 10, 11, 100, 87654321, Integer.MAX_VALUE};
        for (int state = 0; state < 4; state++) {
            for (int a : odd) {
                TruckWing x = state == 0 ? new TruckWing() : state == 1 ? two() : meeting();
                if (state == 3) {
                    x.take(321);
                }
                for (int b : odd) {
                    x.count(b);
                    x.place(a, b);
                    x.way(a, b, true);
                    x.way(a, b, false);
                    x.stop(a, b);
                    x.flown(a, b);
                    x.event(a, b);
                    x.sum(b);
                    x.wind(a, b);
                    x.split(b);
                    x.alone(b);
                    x.fly(a, b, a, b);
                    x.fly(0, a, 1, b);
                    x.go(b);
                    x.wrong();
                    x.customer(a, b, a, b, a);
                    x.end(b);
                    x.feed(a, b, a, b, a);
                    x.set(a, b);
                    x.undo(b > 5);
                }
                x.tell();
                x.take(a);
                x.best();
            }
        }
        due("no call threw", 0, 0);
    }
}
