/** Promises 45 to 48, 53 and 54: sheets, faults, how many. */
public final class SheetsTest {
    public static void main(String[] args) {
        sheets();
        losses();
        puts();
        lanes();
        cells();
        faults();
        many();
        Check.end();
    }

    private static void sheet(DryLand x, int k, int lane, int n, int want, int fault) {
        Check.due("sheet " + k + " " + lane + " " + n, x.sheet(k, lane, n), want);
        Check.due("fault", x.fault(), fault);
    }

    private static void sheets() {
        DryLand x = new DryLand();
        sheet(x, -1, 3, -1, DryLand.UNKNOWN, 0);
        sheet(x, 4, 0, 1, DryLand.UNKNOWN, 0);
        sheet(x, 0, -1, 1, DryLand.OUTSIDE, 0);
        sheet(x, 0, 3, -1, DryLand.OUTSIDE, 0);
        sheet(x, 0, 0, 61, DryLand.OUTSIDE, 0);
        sheet(x, 0, 0, -1, -14, 4);
        sheet(x, 0, 0, Integer.MIN_VALUE, -14, 4);
        sheet(x, 0, 0, Integer.MAX_VALUE, DryLand.OUTSIDE, 0);
        Check.due("still nothing", x.put(0, 0, 0), -11);
        sheet(x, 0, 0, 0, 1, 0);
        Check.due("an empty row", x.put(0, 0, 0), -13);
        sheet(x, 3, 2, 60, 1, 0);
        Check.due("the last cell", x.put(3, 59, 7), 1);
        Check.due("behind it", x.put(3, 60, 7), -13);
        sheet(x, 3, 2, -1, -14, 4);
        Check.due("as it was", x.cell(3, 59, 2), 7);
        sheet(x, 3, 2, 60, 1, 0);
        Check.due("new row", x.cell(3, 59, 2), 0);
        x.put(3, 9, 7);
        sheet(x, 3, 1, 3, 1, 0);
        sheet(x, 3, 1, 10, 1, 0);
        Check.due("new row", x.cell(3, 9, 1), 0);
    }

    private static void losses() {
        DryLand x = new DryLand();
        Check.due("lose", x.lose(-1), DryLand.UNKNOWN);
        Check.due("lose", x.lose(4), DryLand.UNKNOWN);
        Check.due("lose", x.lose(2), 0);
        x.sheet(2, 0, 0);
        Check.due("lose", x.lose(2), 1);
        Check.due("lose", x.lose(2), 0);
        x.sheet(2, 0, 1);
        x.put(2, 0, 5);
        x.lose(2);
        Check.due("nothing there", x.put(2, 0, 5), -11);
        x.sheet(2, 0, 1);
        Check.due("a new row", x.cell(2, 0, 0), 0);
    }

    private static void put(DryLand x, int k, int i, int v, int want, int fault) {
        Check.due("put " + k + " " + i + " " + v, x.put(k, i, v), want);
        Check.due("fault", x.fault(), fault);
    }

    private static void puts() {
        DryLand x = new DryLand();
        put(x, -1, 0, 0, DryLand.UNKNOWN, 0);
        put(x, 4, -1, 0, DryLand.UNKNOWN, 0);
        put(x, 0, -1, 0, -11, 1);
        x.sheet(0, 0, 3);
        put(x, 0, -1, 0, -13, 3);
        put(x, 0, 3, 0, -13, 3);
        put(x, 0, Integer.MAX_VALUE, 0, -13, 3);
        put(x, 0, 2, 9, 1, 0);
        Check.due("the cell", x.cell(0, 2, 0), 9);
        Check.due("another cell", x.cell(0, 1, 0), 0);
        Check.due("another sheet", x.cell(1, 2, 0), DryLand.LOST);
    }

    private static void lanes() {
        DryLand x = new DryLand();
        int[] values = {127, 128, -128, -129, 255, 256, 32767, 32768, -32769, 65536 + 5, Integer.MAX_VALUE,
            Integer.MIN_VALUE, 0, -1};
        for (int lane = 0; lane <= 2; lane++) {
            x.sheet(lane, lane, 2);
            for (int v : values) {
                put(x, lane, 1, v, 1, 0);
                Check.due("cell of " + v, x.cell(lane, 1, lane), lane == 0 ? (byte) v : lane == 1 ? (short) v : v);
            }
        }
    }

    private static void cell(DryLand x, int k, int i, int lane, long want, int fault) {
        Check.due("cell " + k + " " + i + " " + lane, x.cell(k, i, lane), want);
        Check.due("fault", x.fault(), fault);
    }

    private static void cells() {
        DryLand x = new DryLand();
        x.sheet(1, 1, 2);
        x.put(1, 0, -300);
        cell(x, -1, 9, 9, DryLand.LOST, 0);
        cell(x, 4, 0, 0, DryLand.LOST, 0);
        cell(x, 1, 9, 3, DryLand.LOST, 0);
        cell(x, 1, 9, -1, DryLand.LOST, 0);
        cell(x, 1, 9, 0, DryLand.LOST, 2);
        cell(x, 1, 0, 2, DryLand.LOST, 2);
        cell(x, 0, 9, 0, DryLand.LOST, 1);
        cell(x, 0, 0, 2, DryLand.LOST, 1);
        cell(x, 1, -1, 1, DryLand.LOST, 3);
        cell(x, 1, 2, 1, DryLand.LOST, 3);
        cell(x, 1, Integer.MAX_VALUE, 1, DryLand.LOST, 3);
        cell(x, 1, 0, 1, -300, 0);
        cell(x, 1, 1, 1, 0, 0);
    }

    /** Calls that name no fault leave fault() as it is; the others set it anew. */
    private static void faults() {
        DryLand x = new DryLand();
        x.put(0, 0, 0);
        callsWithoutFaults(x);
        Check.due("fault", x.fault(), 1);
        Check.due("fault", x.fault(), 1);
        x.sheet(0, 0, 1);
        Check.due("sheet", x.fault(), 0);
        int[] calls = {0, 1, 2, 3, 4, 5, 6, 7};
        for (int call : calls) {
            x.put(0, 9, 0);
            Check.due("fault", x.fault(), 3);
            refused(x, call);
            Check.due("refused call " + call, x.fault(), 0);
        }
    }

    private static void callsWithoutFaults(DryLand x) {
        x.strike(0, 0);
        x.line(0, 0);
        x.why(0, 0, 0, 0, 0);
        x.least(0, -1);
        x.step(0, 0, 0, 0, 0, 0);
        x.doctor(1);
        x.came(0, 0);
        x.sure(0, 0);
        x.cask(0, 0);
        x.drank(0, 0, 0);
        x.raid(true);
        x.court(1, 1);
        x.jury(0, 0);
        x.miles(5);
        x.town(1, 1);
        x.week(0, 1);
        x.lose(0);
        x.lose(9);
        x.tell(0);
        x.hang(0);
        x.trace();
        x.many(99);
    }

    private static void refused(DryLand x, int call) {
        switch (call) {
            case 0 -> x.text(9, 0, 0, 1);
            case 1 -> x.more(0, 9, 0, 0, 1);
            case 2 -> x.agent(9, 0, 0, 1);
            case 3 -> x.truck(0, 0, 9, 0, 0, 1);
            case 4 -> x.sheet(9, 0, 1);
            case 5 -> x.put(9, 0, 0);
            case 6 -> x.cell(9, 0, 0);
            default -> x.as(99, 0);
        }
    }

    private static void many() {
        DryLand x = new DryLand();
        Check.due("many", x.many(-1), DryLand.OUTSIDE);
        Check.due("many", x.many(12), DryLand.OUTSIDE);
        int[] want = new int[12];
        for (int what = 0; what < 12; what++) {
            for (int k = 0; k <= what; k++) {
                want[what] += addOne(x, what) ? 1 : 0;
            }
        }
        // A kind's first are needed by others; each has one more than the kind ahead of it, up to its limit.
        for (int what = 0; what < 12; what++) {
            Check.due("many " + what, x.many(what), want[what]);
        }
        Check.due("towns are full", x.many(10), 6);
        Check.due("agents", x.many(3), 4);
        Check.due("facts", x.many(7), 8);
        Check.due("jurors", x.many(11), 12);
    }

    private static boolean addOne(DryLand x, int what) {
        return switch (what) {
            case 0 -> Check.tell(x, "m0@1-2") >= 0;
            case 1 -> x.step(0, 1, 0, 0, 0, 0) >= 0;
            case 2 -> x.doctor(1) >= 0 && x.slip(0, 0, 0) >= 0;
            case 3 -> aRow(x) && x.agent(1, 0, 0, 1) >= 0;
            case 4 -> aRow(x) && x.truck(0, 0, 1, 0, 0, 1) >= 0;
            case 5 -> x.cask(0, 0) >= 0;
            case 6 -> x.person() >= 0;
            case 7 -> x.drank(0, 0, 0) >= 0;
            case 8 -> x.raid(true) >= 0;
            case 9 -> x.sue(1, 0, 0) >= 0;
            case 10 -> x.town(0, 0) >= 0;
            default -> x.juror(1, 2) >= 0;
        };
    }

    private static boolean aRow(DryLand x) {
        return x.sheet(1, 0, 1) == 1;
    }
}
