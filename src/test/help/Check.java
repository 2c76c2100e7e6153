import java.util.NoSuchElementException;
import java.util.function.ToLongFunction;

/** What the tests share: answers held against those that are due, texts told, refused calls. */
abstract class Check {
    /** Stands for a NoSuchElementException among answers. */
    static final long THROWN = -7777;

    private static int failures = 0;
    private static int answers = 0;
    private static String sentence = "";

    /** The sentence of the document to which the next answers belong. */
    static void says(String words) {
        sentence = words;
    }

    static void due(String call, long got, long want) {
        answers++;
        if (got != want) {
            failures++;
            System.out.println(sentence + " | " + call + " answered " + got + ", due is " + want);
        }
    }

    static void due(String call, boolean got, boolean want) {
        due(call, got ? 1 : 0, want ? 1 : 0);
    }

    /** Ends the test: exit code 1 if an answer was wrong. */
    static void finish() {
        System.out.println(answers + " answers looked at, " + failures + " wrong");
        if (failures > 0) {
            System.exit(1);
        }
    }

    /** Feeds a text's bytes behind what the TAPE has, and cuts off what fills the last twenty. */
    static void feedText(TruckWing x, String text) {
        int ahead = x.count(3);
        for (int first = 0; first < text.length(); first += 20) {
            int[] five = new int[5];
            for (int k = 0; k < 20; k++) {
                int c = first + k < text.length() ? text.charAt(first + k) : ' ';
                five[k / 4] = five[k / 4] << 8 | c;
            }
            x.feed(five[0], five[1], five[2], five[3], five[4]);
        }
        x.end(ahead + text.length());
    }

    static void told(TruckWing x, String text, int statements) {
        feedText(x, text);
        due("tell() of [" + text + "]", x.tell(), statements);
        due("fault() of [" + text + "]", x.fault(), 0);
        due("count(3) behind tell()", x.count(3), 0);
    }

    static void faulty(TruckWing x, String text, int kind, int place) {
        feedText(x, text);
        due("tell() of [" + text + "]", x.tell(), -1);
        due("fault() of [" + text + "]", x.fault(), kind + 8 * place);
        due("count(3) behind tell()", x.count(3), 0);
    }

    static long sortie(TruckWing x, int k, int what) {
        try {
            return x.sortie(k, what);
        } catch (NoSuchElementException e) {
            return THROWN;
        }
    }

    /** All that can be asked of what is told and of the row, in some hundred calls. */
    static String picture(TruckWing x) {
        StringBuilder text = new StringBuilder();
        for (int what = 0; what < 20; what++) {
            text.append(x.count(what)).append(' ');
        }
        for (int place = 0; place <= x.count(0); place++) {
            for (int what = 0; what < 5; what++) {
                text.append(x.place(place, what)).append(' ');
            }
        }
        for (int k = 0; k < x.count(2); k++) {
            for (int what = 0; what < 4; what++) {
                text.append(sortie(x, k, what)).append(' ');
            }
        }
        for (int index = 0; index < x.count(1); index++) {
            text.append(x.stop(index, 0)).append(' ');
        }
        return text.append(x.wrong()).append(' ').append(x.ends()).append(' ').append(x.fault()).toString();
    }

    /** A call that is refused answers so and changes nothing. */
    static void refused(String name, TruckWing x, ToLongFunction<TruckWing> call, long answer) {
        String ahead = picture(x);
        due(name, call.applyAsLong(x), answer);
        String behind = picture(x);
        due(name + " changes nothing: [" + ahead + "] and [" + behind + "]", ahead.equals(behind), true);
    }
}
