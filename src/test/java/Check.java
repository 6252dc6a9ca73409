/** What the tests share: a count of wrong answers, and texts put to sheets. */
final class Check {
    private static int wrong = 0;
    private static int looked = 0;

    private Check() {
    }

    static void due(String call, long got, long want) {
        looked++;
        if (got != want) {
            wrong++;
            System.out.println(call + " answered " + got + ", due is " + want);
        }
    }

    static void holds(String what, boolean is) {
        due(what, is ? 1 : 0, 1);
    }

    static void end() {
        System.out.println(looked + " answers, " + wrong + " wrong");
        if (wrong != 0) {
            System.exit(1);
        }
    }

    /** A new row on a sheet with these numbers. */
    static void row(DryLand x, int sheet, int lane, int... cells) {
        due("sheet of a row", x.sheet(sheet, lane, cells.length), 1);
        for (int i = 0; i < cells.length; i++) {
            if (cells[i] != 0) {
                due("put of a row", x.put(sheet, i, cells[i]), 1);
            }
        }
    }

    static int[] codes(String text) {
        int[] codes = new int[text.length()];
        for (int i = 0; i < codes.length; i++) {
            codes[i] = text.charAt(i);
        }
        return codes;
    }

    /** What text() answers for these signs, put to sheet 0 as ints. */
    static int tell(DryLand x, String text) {
        row(x, 0, 2, codes(text));
        return x.text(0, 2, 0, text.length());
    }
}
