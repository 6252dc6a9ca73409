/** Promises 8 to 10: steps, ways, what a text would stop. */
public final class StepsTest {
    public static void main(String[] args) {
        steps();
        least();
        more();
        Check.end();
    }

    private static void steps() {
        DryLand x = new DryLand();
        int[][] outside = {{-1, 1, 0, 0, 0, 0}, {12, 1, 0, 0, 0, 0}, {1, -1, 0, 0, 0, 0}, {1, 12, 0, 0, 0, 0},
            {3, 3, 0, 0, 0, 0}, {0, 1, -1, 0, 0, 0}, {0, 1, 4, 0, 0, 0}, {0, 1, 0, -1, 0, 0}, {0, 1, 0, 4, 0, 0},
            {0, 1, 0, 0, -1, 0}, {0, 1, 0, 0, 100, 0}, {0, 1, 0, 0, 0, -1}, {0, 1, 0, 0, 0, 5}};
        for (int[] s : outside) {
            Check.due("step", x.step(s[0], s[1], s[2], s[3], s[4], s[5]), DryLand.OUTSIDE);
        }
        for (int s = 0; s < 24; s++) {
            Check.due("step " + s, x.step(11, 0, 3, 3, 99, 4), s);
        }
        Check.due("step 24", x.step(11, 0, 3, 3, 99, 4), DryLand.FULL);
        Check.due("step 24", x.step(11, 11, 3, 3, 99, 4), DryLand.OUTSIDE);
        Check.due("how many", x.many(1), 24);
        noWay(x, 0);
    }

    private static void least() {
        DryLand x = new DryLand();
        noWay(x, 0);
        noWay(x, 99);
        Check.due("no way, no day", x.least(-1, -2), DryLand.OUTSIDE);
        Check.due("no way, no day", x.least(100, 0), DryLand.OUTSIDE);
        x.step(0, 1, 0, 0, 0, 4);
        x.step(1, 11, 1, 0, 0, 4);
        x.step(0, 2, 0, 1, 0, 4);
        x.step(2, 11, 1, 1, 0, 4);
        x.step(0, 1, 0, 2, 0, 4);
        way(x, 0, 0, 1);
        x.step(0, 11, 2, 0, 0, 4);
        way(x, 0, 5);
        Check.tell(x, "c0@10-19");
        way(x, 9, 5);
        way(x, 10, 0, 1);
        Check.tell(x, "m0@12-14");
        way(x, 12, 2, 3);
        Check.tell(x, "m1@13-13");
        way(x, 13, 4, 1);
        Check.tell(x, "s0@13-13");
        noWay(x, 13);
        way(x, 14, 2, 3);
        x.strike(0, 14);
        way(x, 14, 5);
        Check.due("least", x.least(-1, -1), DryLand.OUTSIDE);
        Check.due("least", x.least(100, -2), DryLand.OUTSIDE);
        longest();
    }

    private static void longest() {
        DryLand x = new DryLand();
        for (int s = 10; s >= 0; s--) {
            x.step(s, s + 1, 3, 0, 0, 0);
        }
        way(x, 99, 10, 9, 8, 7, 6, 5, 4, 3, 2, 1, 0);
        DryLand y = new DryLand();
        for (int s = 0; s <= 10; s++) {
            y.step(s, s + 1, 3, 0, 0, 0);
        }
        way(y, 0, 0, 1, 2, 3, 4, 5, 6, 7, 8, 9, 10);
    }

    /** Each step that may be asked for is none; below -1 no step is asked for. */
    private static void noWay(DryLand x, int day) {
        for (int i = -1; i <= 12; i++) {
            Check.due("no way on " + day + " " + i, x.least(day, i), DryLand.NONE);
        }
        Check.due("no way on " + day + " -2", x.least(day, -2), DryLand.UNKNOWN);
        Check.due("no way on " + day + ", far off", x.least(day, Integer.MIN_VALUE), DryLand.UNKNOWN);
    }

    private static void way(DryLand x, int day, int... steps) {
        Check.due("least on " + day, x.least(day, -1), steps.length);
        for (int i = 0; i < steps.length; i++) {
            Check.due("least on " + day + " " + i, x.least(day, i), steps[i]);
        }
        Check.due("behind the last", x.least(day, steps.length), DryLand.UNKNOWN);
        Check.due("ahead of the first", x.least(day, -2), DryLand.UNKNOWN);
        Check.due("far off", x.least(day, Integer.MAX_VALUE), DryLand.UNKNOWN);
        Check.due("far off", x.least(day, Integer.MIN_VALUE), DryLand.UNKNOWN);
    }

    private static void more() {
        DryLand x = new DryLand();
        x.step(0, 1, 0, 0, 20, 4);
        x.step(1, 2, 0, 1, 30, 0);
        x.step(2, 3, 0, 1, 40, 4);
        x.step(4, 3, 1, 1, 40, 4);
        wouldStop(x, "m*@0-50", 10, 3);
        wouldStop(x, "m*@0-50", 51, 0);
        wouldStop(x, "m*@0-50!d", 10, 2);
        wouldStop(x, "m1@0-50", 10, 2);
        wouldStop(x, "m1>30@0-50", 10, 1);
        Check.due("none is put", x.many(0), 0);
        Check.tell(x, "m1>35@10-20");
        wouldStop(x, "m*@0-50", 9, 3);
        wouldStop(x, "m*@0-50", 10, 2);
        x.strike(0, 10);
        wouldStop(x, "m*@0-50", 10, 3);
        Check.row(x, 1, 0, Check.codes("m0@0-9"));
        refused(x, 0, -1, 5, 0, 6, DryLand.UNKNOWN, 0);
        refused(x, -1, 4, 0, 0, 6, DryLand.UNKNOWN, 0);
        refused(x, 0, 1, 3, 0, -1, DryLand.OUTSIDE, 0);
        refused(x, -1, 1, 1, 0, 6, DryLand.OUTSIDE, 0);
        refused(x, 100, 2, 1, 0, 6, DryLand.OUTSIDE, 0);
        refused(x, 0, 1, 1, 0, -1, -12, 2);
        refused(x, 0, 2, 1, 0, -1, -11, 1);
        refused(x, 0, 1, 0, 9, -1, -14, 4);
        refused(x, 0, 1, 0, 7, 0, -13, 3);
        refused(x, 0, 1, 0, 0, 7, -13, 3);
        refused(x, 0, 1, 0, 0, 5, -105, 0);
        refused(x, 0, 1, 0, 0, 6, 1, 0);
        for (int l = 1; l < 24; l++) {
            x.text(1, 0, 0, 6);
        }
        Check.due("full", x.text(1, 0, 0, 6), DryLand.FULL);
        wouldStop(x, "m1@0-50", 1, 2);
    }

    private static void wouldStop(DryLand x, String text, int day, int want) {
        Check.row(x, 0, 2, Check.codes(text));
        Check.due("more " + text + " on " + day, x.more(day, 0, 2, 0, text.length()), want);
    }

    private static void refused(DryLand x, int day, int sheet, int lane, int i, int n, int want, int fault) {
        Check.due("more " + day + " " + sheet + " " + lane, x.more(day, sheet, lane, i, n), want);
        Check.due("fault", x.fault(), fault);
    }
}
