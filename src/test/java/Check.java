import java.util.TreeSet;

/** What the tests share: a count of wrong answers, and texts put to sheets. */
final class Check {
    private static final TreeSet<Integer> PROMISES = new TreeSet<>();
    private static int wrong = 0;
    private static int looked = 0;
    private static String sentence = "";

    private Check() {
    }

    static void due(String call, long got, long want) {
        looked++;
        if (got != want) {
            wrong++;
            System.out.println(sentence + call + " answered " + got + ", due is " + want);
        }
    }

    static void holds(String what, boolean is) {
        due(what, is ? 1 : 0, 1);
    }

    /** From here on it is this sentence of the document, in its own words, that is looked at. */
    static void says(int promise, String words) {
        PROMISES.add(promise);
        sentence = "Promise " + promise + " (" + words + "): ";
    }

    /** None of these promises may have been left out by a test that goes sentence by sentence. */
    static void covers(int first, int last) {
        sentence = "";
        for (int promise = first; promise <= last; promise++) {
            holds("promise " + promise + " is looked at", PROMISES.contains(promise));
        }
    }

    static void end() {
        System.out.println(looked + " answers, " + wrong + " wrong");
        if (wrong != 0) {
            System.exit(1);
        }
    }

    /** A new row on a sheet with these numbers. */
    static void row(DryLand x, int sheet, int lane, int... cells) {
        due("sheet of a row", x.sheet(sheet, lane, cells.length), 1);
        for (int i = 0; i < cells.length; i++) {
            if (cells[i] != 0) {
                due("put of a row", x.put(sheet, i, cells[i]), 1);
            }
        }
    }

    static int[] codes(String text) {
        int[] codes = new int[text.length()];
        for (int i = 0; i < codes.length; i++) {
            codes[i] = text.charAt(i);
        }
        return codes;
    }

    /** What text() answers for these signs, put to sheet 0 as ints. */
    static int tell(DryLand x, String text) {
        row(x, 0, 2, codes(text));
        return x.text(0, 2, 0, text.length());
    }
}
