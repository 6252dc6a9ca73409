/** Promises 8 to 10, sentence by sentence: the bounds that the document names. */
public final class StepsBoundsTest {
    public static void main(String[] args) {
        stages();
        deeds();
        twentyFourEver();
        noWay();
        whichStep();
        leastDays();
        fewest();
        firstAsARow();
        noneStopped();
        onlyFromVatToTable();
        longestWay();
        moreRefused();
        moreInOrder();
        moreFirstFaults();
        moreEmpty();
        moreCounts();
        moreAtFull();
        Check.covers(8, 10);
        Check.end();
    }

    private static void stages() {
        Check.says(8, "OUTSIDE: stages (both are one, too), the deed; FULL");
        DryLand x = new DryLand();
        Check.due("0 to 11", x.step(0, 11, 0, 0, 0, 0), 0);
        Check.due("11 to 0", x.step(11, 0, 0, 0, 0, 0), 1);
        for (int stage : new int[] {-1, 12, Integer.MIN_VALUE, Integer.MAX_VALUE}) {
            Check.due("from " + stage, x.step(stage, 5, 0, 0, 0, 0), DryLand.OUTSIDE);
            Check.due("to " + stage, x.step(5, stage, 0, 0, 0, 0), DryLand.OUTSIDE);
            Check.due("both " + stage, x.step(stage, stage, 0, 0, 0, 0), DryLand.OUTSIDE);
        }
        for (int stage = 0; stage <= 11; stage++) {
            Check.due("both " + stage, x.step(stage, stage, 0, 0, 0, 0), DryLand.OUTSIDE);
        }
        Check.due("many", x.many(1), 2);
    }

    private static void deeds() {
        Check.says(8, "the deed");
        DryLand x = new DryLand();
        int[] most = {3, 3, 99, 4};
        int steps = 0;
        for (int k = 0; k < 4; k++) {
            Check.due("below at " + k, step(x, k, -1), DryLand.OUTSIDE);
            Check.due("least at " + k, step(x, k, 0), steps);
            Check.due("most at " + k, step(x, k, most[k]), steps + 1);
            Check.due("above at " + k, step(x, k, most[k] + 1), DryLand.OUTSIDE);
            steps += 2;
        }
        Check.due("many", x.many(1), steps);
    }

    private static int step(DryLand x, int which, int value) {
        int[] d = {0, 0, 0, 0};
        d[which] = value;
        return x.step(1, 2, d[0], d[1], d[2], d[3]);
    }

    private static void twentyFourEver() {
        Check.says(8, "24 ever");
        DryLand x = new DryLand();
        for (int s = 0; s < 24; s++) {
            Check.due("step " + s, x.step(s == 23 ? 0 : 5, s == 23 ? 11 : 6, 0, 0, 0, 0), s);
        }
        Check.due("step 24", x.step(0, 11, 0, 0, 0, 0), DryLand.FULL);
        Check.due("of a stage that is none", x.step(0, 12, 0, 0, 0, 0), DryLand.OUTSIDE);
        Check.due("of one stage", x.step(3, 3, 0, 0, 0, 0), DryLand.OUTSIDE);
        Check.due("of a deed that is none", x.step(0, 11, 4, 0, 0, 0), DryLand.OUTSIDE);
        Check.due("many", x.many(1), 24);
        way(x, 0, 23);
    }

    private static void noWay() {
        Check.says(9, "NONE: there is none");
        DryLand x = new DryLand();
        for (int day = 0; day <= 99; day += 99) {
            noWayOn(x, day);
        }
        x.step(0, 11, 0, 0, 0, 4);
        Check.tell(x, "m0@50-50");
        way(x, 49, 0);
        noWayOn(x, 50);
        way(x, 51, 0);
    }

    private static void noWayOn(DryLand x, int day) {
        Check.due("how many", x.least(day, -1), DryLand.NONE);
        Check.due("the first", x.least(day, 0), DryLand.NONE);
        Check.due("the last there could be", x.least(day, 10), DryLand.NONE);
        Check.due("a place that no way has", x.least(day, Integer.MAX_VALUE), DryLand.NONE);
        Check.due("no place", x.least(day, -2), DryLand.UNKNOWN);
        Check.due("no place", x.least(day, Integer.MIN_VALUE), DryLand.UNKNOWN);
    }

    private static void whichStep() {
        Check.says(9, "UNKNOWN: i");
        DryLand x = new DryLand();
        x.step(0, 4, 0, 0, 0, 4);
        x.step(4, 11, 0, 0, 0, 4);
        Check.due("i -2", x.least(0, -2), DryLand.UNKNOWN);
        Check.due("i -1", x.least(0, -1), 2);
        Check.due("i 0", x.least(0, 0), 0);
        Check.due("i 1", x.least(0, 1), 1);
        Check.due("i 2", x.least(0, 2), DryLand.UNKNOWN);
        for (int i : new int[] {3, 10, 11, 12, 24, Integer.MIN_VALUE, Integer.MAX_VALUE}) {
            Check.due("i " + i, x.least(0, i), DryLand.UNKNOWN);
        }
    }

    private static void leastDays() {
        Check.says(9, "OUTSIDE: day");
        DryLand x = new DryLand();
        x.step(0, 11, 0, 0, 0, 4);
        for (int day : new int[] {-1, 100, Integer.MIN_VALUE, Integer.MAX_VALUE}) {
            for (int i = -2; i <= 1; i++) {
                Check.due("day " + day + " i " + i, x.least(day, i), DryLand.OUTSIDE);
            }
        }
        way(x, 0, 0);
        way(x, 99, 0);
    }

    private static void fewest() {
        Check.says(9, "the fewest STEPS from STAGE 0 (a vat) to 11 (a table)");
        DryLand x = new DryLand();
        x.step(0, 1, 0, 0, 0, 4);
        x.step(1, 2, 0, 0, 0, 4);
        x.step(2, 11, 0, 0, 0, 4);
        way(x, 0, 0, 1, 2);
        x.step(1, 11, 0, 0, 0, 4);
        way(x, 0, 0, 3);
        x.step(0, 11, 0, 0, 0, 4);
        way(x, 0, 4);
    }

    private static void firstAsARow() {
        Check.says(9, "of several the first as a row of STEPS' numbers");
        DryLand x = new DryLand();
        x.step(5, 11, 0, 0, 0, 4);
        x.step(0, 6, 0, 0, 0, 4);
        x.step(0, 5, 0, 0, 0, 4);
        x.step(6, 11, 0, 0, 0, 4);
        way(x, 0, 1, 3);
        x.step(6, 11, 0, 0, 0, 4);
        x.step(0, 6, 0, 0, 0, 4);
        way(x, 0, 1, 3);
        DryLand y = new DryLand();
        // The first number decides, though the row that it begins goes on with greater ones.
        y.step(1, 11, 0, 0, 0, 4);
        y.step(2, 11, 0, 0, 0, 4);
        y.step(0, 2, 0, 0, 0, 4);
        y.step(0, 1, 0, 0, 0, 4);
        way(y, 0, 2, 1);
    }

    private static void noneStopped() {
        Check.says(9, "none of which a LINE STOPS");
        DryLand x = new DryLand();
        x.step(0, 11, 0, 0, 10, 0);
        x.step(0, 3, 1, 1, 10, 4);
        x.step(3, 11, 2, 2, 10, 4);
        Check.tell(x, "m0>9@10-20!pev");
        way(x, 9, 0);
        way(x, 10, 1, 2);
        way(x, 20, 1, 2);
        way(x, 21, 0);
        Check.tell(x, "c2>10@10-20");
        way(x, 10, 1, 2);
        Check.tell(x, "c2@15-20");
        way(x, 14, 1, 2);
        noWayOn(x, 15);
        x.strike(2, 20);
        noWayOn(x, 19);
        way(x, 20, 1, 2);
        x.strike(0, 15);
        way(x, 15, 0);
    }

    private static void onlyFromVatToTable() {
        Check.says(9, "from a STAGE to another one by a deed");
        DryLand x = new DryLand();
        x.step(11, 0, 0, 0, 0, 4);
        noWayOn(x, 0);
        x.step(0, 5, 0, 0, 0, 4);
        x.step(5, 0, 0, 0, 0, 4);
        noWayOn(x, 0);
        x.step(11, 5, 0, 0, 0, 4);
        noWayOn(x, 0);
        x.step(5, 11, 0, 0, 0, 4);
        way(x, 0, 1, 4);
    }

    private static void longestWay() {
        Check.says(9, "STAGES 0 .. 11");
        DryLand x = new DryLand();
        for (int s = 10; s >= 0; s--) {
            x.step(s, s + 1, 0, 0, 0, 4);
        }
        // Steps back make no way shorter.
        for (int s = 0; s <= 10; s++) {
            x.step(s + 1, s, 0, 0, 0, 4);
        }
        way(x, 0, 10, 9, 8, 7, 6, 5, 4, 3, 2, 1, 0);
    }

    private static void way(DryLand x, int day, int... steps) {
        Check.due("how many on " + day, x.least(day, -1), steps.length);
        for (int i = 0; i < steps.length; i++) {
            Check.due("day " + day + " i " + i, x.least(day, i), steps[i]);
        }
        Check.due("behind the last", x.least(day, steps.length), DryLand.UNKNOWN);
        Check.due("ahead of -1", x.least(day, -2), DryLand.UNKNOWN);
    }

    private static DryLand withSteps() {
        DryLand x = new DryLand();
        Check.row(x, 0, 0, Check.codes("m0>10@5-8!d"));
        x.step(0, 1, 0, 0, 10, 4);
        x.step(0, 1, 0, 0, 11, 4);
        x.step(0, 1, 0, 0, 11, 0);
        x.step(0, 1, 0, 1, 11, 4);
        x.step(0, 1, 1, 0, 11, 4);
        x.step(0, 1, 0, 0, 99, 1);
        return x;
    }

    private static void moreRefused() {
        Check.says(10, "UNKNOWN; OUTSIDE: lane, day");
        DryLand x = withSteps();
        more(x, 5, -1, 0, 0, 11, DryLand.UNKNOWN, 0);
        more(x, 5, 4, 0, 0, 11, DryLand.UNKNOWN, 0);
        more(x, 5, 0, -1, 0, 11, DryLand.OUTSIDE, 0);
        more(x, 5, 0, 3, 0, 11, DryLand.OUTSIDE, 0);
        more(x, -1, 0, 0, 0, 11, DryLand.OUTSIDE, 0);
        more(x, 100, 0, 0, 0, 11, DryLand.OUTSIDE, 0);
        more(x, Integer.MIN_VALUE, 0, 0, 0, 11, DryLand.OUTSIDE, 0);
        more(x, 0, 0, 0, 0, 11, 0, 0);
        more(x, 99, 0, 0, 0, 11, 0, 0);
    }

    private static void moreInOrder() {
        Check.says(10, "FAULTS as text()");
        DryLand x = withSteps();
        more(x, 100, 4, 3, -1, -1, DryLand.UNKNOWN, 0);
        more(x, 100, 0, 3, -1, -1, DryLand.OUTSIDE, 0);
        more(x, 100, 0, 1, -1, -1, DryLand.OUTSIDE, 0);
        more(x, 100, 1, 0, -1, -1, DryLand.OUTSIDE, 0);
        more(x, 5, 0, 1, -1, -1, -12, 2);
        more(x, 5, 0, 2, 0, 11, -12, 2);
        for (int lane = 0; lane <= 2; lane++) {
            more(x, 5, 1, lane, -1, -1, -11, 1);
        }
        more(x, 5, 0, 0, -1, -1, -14, 4);
        more(x, 5, 0, 0, -1, 0, -13, 3);
        more(x, 5, 0, 0, 11, 1, -13, 3);
        more(x, 5, 0, 0, 0, 12, -13, 3);
        more(x, 5, 0, 0, 1, Integer.MAX_VALUE, -13, 3);
        more(x, 5, 0, 0, 0, 11, 2, 0);
    }

    private static void moreFirstFaults() {
        Check.says(10, "-100 less the FIRST FAULT");
        DryLand x = withSteps();
        for (int n = 0; n <= 11; n++) {
            boolean isText = n == 9 || n == 11;
            int stopped = n == 9 ? 3 : 2;
            more(x, 5, 0, 0, 0, n, isText ? stopped : -100 - n, 0);
        }
        more(x, 5, 0, 0, 1, 10, -100, 0);
        x.put(0, 7, '9');
        more(x, 5, 0, 0, 0, 11, -100 - 8, 0);
    }

    private static void moreEmpty() {
        Check.says(10, "of n cells of a SHEET from i on");
        DryLand x = withSteps();
        more(x, 5, 0, 0, 11, 0, -100, 0);
        more(x, 5, 0, 0, 12, 0, -13, 3);
        x.sheet(2, 2, 0);
        more(x, 5, 2, 2, 0, 0, -100, 0);
        more(x, 5, 2, 2, 1, 0, -13, 3);
    }

    private static void moreCounts() {
        Check.says(10, "How many STEPS that no LINE STOPS on a DAY a TEXT would stop (that is not put)");
        DryLand none = new DryLand();
        Check.row(none, 0, 0, Check.codes("m*@0-99"));
        more(none, 0, 0, 0, 0, 7, 0, 0);
        DryLand x = withSteps();
        int[] days = {4, 5, 8, 9};
        int[] want = {0, 2, 2, 0};
        for (int k = 0; k < days.length; k++) {
            more(x, days[k], 0, 0, 0, 11, want[k], 0);
        }
        Check.due("not put", x.many(0), 0);
        Check.due("stops nothing", x.stops(0, 0, 11, 4, 5), 0);
        Check.tell(x, "m0>11@6-7");
        Check.row(x, 0, 0, Check.codes("m0>10@5-8!d"));
        more(x, 5, 0, 0, 0, 11, 2, 0);
        more(x, 6, 0, 0, 0, 11, 1, 0);
        x.strike(0, 7);
        more(x, 6, 0, 0, 0, 11, 1, 0);
        more(x, 7, 0, 0, 0, 11, 2, 0);
        x.text(0, 0, 0, 11);
        more(x, 5, 0, 0, 0, 11, 0, 0);
        DryLand all = new DryLand();
        Check.row(all, 0, 0, Check.codes("m*@0-99"));
        for (int s = 1; s <= 24; s++) {
            all.step(0, 1, 0, 0, 0, 0);
            more(all, 0, 0, 0, 0, 7, s, 0);
        }
    }

    private static void moreAtFull() {
        Check.says(10, "(that is not put)");
        DryLand x = withSteps();
        Check.row(x, 1, 0, Check.codes("k0@0-0"));
        for (int l = 0; l < 24; l++) {
            x.text(1, 0, 0, 6);
        }
        Check.due("full", x.text(0, 0, 0, 11), DryLand.FULL);
        more(x, 5, 0, 0, 0, 11, 2, 0);
        Check.due("many", x.many(0), 24);
    }

    private static void more(DryLand x, int day, int sheet, int lane, int i, int n, int want, int fault) {
        String call = "more " + day + " " + sheet + " " + lane + " " + i + " " + n;
        Check.due(call, x.more(day, sheet, lane, i, n), want);
        Check.due("fault", x.fault(), fault);
    }
}
