/** Promises 45 to 48, 53 and 54, sentence by sentence: the bounds that the document names. */
public final class SheetsBoundsTest {
    public static void main(String[] args) {
        sheetRefused();
        sheetLengths();
        newRows();
        loseRefused();
        loseNothing();
        putRefused();
        putCells();
        cutToLanes();
        cellRefused();
        cellInOrder();
        cellEnds();
        noFaultAtFirst();
        refusedIsNoFault();
        latestThatNamesOne();
        manyRefused();
        manyAtMost();
        lastCall();
        Check.covers(45, 48);
        Check.covers(53, 54);
        Check.end();
    }

    private static void sheet(DryLand x, int k, int lane, int n, int want, int fault) {
        Check.due("sheet " + k + " " + lane + " " + n, x.sheet(k, lane, n), want);
        Check.due("fault", x.fault(), fault);
    }

    private static void sheetRefused() {
        Check.says(45, "UNKNOWN; OUTSIDE: lane, n above 60; SIZE");
        DryLand x = new DryLand();
        for (int k : new int[] {-1, 4, Integer.MIN_VALUE, Integer.MAX_VALUE}) {
            sheet(x, k, 0, 1, DryLand.UNKNOWN, 0);
            sheet(x, k, 3, 61, DryLand.UNKNOWN, 0);
            sheet(x, k, 0, -1, DryLand.UNKNOWN, 0);
        }
        for (int lane : new int[] {-1, 3, Integer.MIN_VALUE, Integer.MAX_VALUE}) {
            sheet(x, 0, lane, 1, DryLand.OUTSIDE, 0);
            sheet(x, 0, lane, -1, DryLand.OUTSIDE, 0);
            sheet(x, 0, lane, 61, DryLand.OUTSIDE, 0);
        }
        for (int n : new int[] {61, Integer.MAX_VALUE}) {
            sheet(x, 0, 0, n, DryLand.OUTSIDE, 0);
        }
        for (int n : new int[] {-1, Integer.MIN_VALUE}) {
            sheet(x, 0, 0, n, -14, 4);
        }
        Check.due("still nothing", x.lose(0), 0);
    }

    private static void sheetLengths() {
        Check.says(45, "a row of 0 .. 60 numbers (0 at first) of a LANE");
        DryLand x = new DryLand();
        for (int lane = 0; lane <= 2; lane++) {
            sheet(x, 3, lane, 0, 1, 0);
            Check.due("no cell", x.cell(3, 0, lane), DryLand.LOST);
            Check.due("index", x.fault(), 3);
            sheet(x, 3, lane, 1, 1, 0);
            Check.due("one cell", x.cell(3, 0, lane), 0);
            Check.due("no second", x.cell(3, 1, lane), DryLand.LOST);
            sheet(x, 3, lane, 60, 1, 0);
            for (int i = 0; i < 60; i++) {
                Check.due("cell " + i, x.cell(3, i, lane), 0);
                x.put(3, i, 1 + i);
            }
            Check.due("behind it", x.cell(3, 60, lane), DryLand.LOST);
        }
    }

    private static void newRows() {
        Check.says(45, "A SHEET gets a new row: 1");
        DryLand x = new DryLand();
        sheet(x, 0, 2, 60, 1, 0);
        for (int i = 0; i < 60; i++) {
            x.put(0, i, -1 - i);
        }
        sheet(x, 0, 2, 61, DryLand.OUTSIDE, 0);
        sheet(x, 0, 2, -1, -14, 4);
        sheet(x, 0, 3, 5, DryLand.OUTSIDE, 0);
        Check.due("as it was", x.cell(0, 0, 2), -1);
        Check.due("as it was", x.cell(0, 59, 2), -60);
        sheet(x, 0, 2, 1, 1, 0);
        Check.due("new", x.cell(0, 0, 2), 0);
        sheet(x, 0, 1, 60, 1, 0);
        for (int i = 0; i < 60; i++) {
            Check.due("new " + i, x.cell(0, i, 1), 0);
        }
        Check.due("of another lane", x.cell(0, 0, 2), DryLand.LOST);
        Check.due("another sheet", x.lose(1), 0);
    }

    private static void loseRefused() {
        Check.says(46, "UNKNOWN");
        DryLand x = new DryLand();
        for (int k : new int[] {-1, 4, Integer.MIN_VALUE, Integer.MAX_VALUE}) {
            Check.due("lose " + k, x.lose(k), DryLand.UNKNOWN);
        }
    }

    private static void loseNothing() {
        Check.says(46, "A SHEET has nothing: 1; 0: it had nothing");
        DryLand x = new DryLand();
        for (int k = 0; k <= 3; k++) {
            Check.due("at first", x.lose(k), 0);
            x.sheet(k, 0, 0);
        }
        for (int k = 0; k <= 3; k++) {
            Check.due("an empty row is something", x.lose(k), 1);
            Check.due("once", x.lose(k), 0);
            Check.due("nothing", x.put(k, 0, 0), -11);
        }
        x.sheet(2, 1, 5);
        x.put(2, 4, 7);
        Check.due("lose", x.lose(2), 1);
        x.sheet(2, 1, 5);
        Check.due("it is gone", x.cell(2, 4, 1), 0);
    }

    private static void put(DryLand x, int k, int i, int v, int want, int fault) {
        Check.due("put " + k + " " + i + " " + v, x.put(k, i, v), want);
        Check.due("fault", x.fault(), fault);
    }

    private static void putRefused() {
        Check.says(47, "UNKNOWN; NULL; INDEX");
        DryLand x = new DryLand();
        for (int k : new int[] {-1, 4, Integer.MIN_VALUE, Integer.MAX_VALUE}) {
            put(x, k, 0, 0, DryLand.UNKNOWN, 0);
            put(x, k, -1, 0, DryLand.UNKNOWN, 0);
        }
        for (int k = 0; k <= 3; k++) {
            put(x, k, 0, 0, -11, 1);
            put(x, k, -1, 0, -11, 1);
        }
        x.sheet(0, 0, 0);
        put(x, 0, 0, 0, -13, 3);
        put(x, 0, -1, 0, -13, 3);
        x.sheet(0, 0, 60);
        for (int i : new int[] {-1, 60, Integer.MIN_VALUE, Integer.MAX_VALUE}) {
            put(x, 0, i, 0, -13, 3);
        }
    }

    private static void putCells() {
        Check.says(47, "Cell i of a SHEET becomes v: 1");
        DryLand x = new DryLand();
        x.sheet(3, 2, 60);
        x.sheet(2, 2, 60);
        put(x, 3, 0, 5, 1, 0);
        put(x, 3, 59, 6, 1, 0);
        put(x, 3, 60, 7, -13, 3);
        for (int i = 0; i < 60; i++) {
            Check.due("cell " + i, x.cell(3, i, 2), i == 0 ? 5 : i == 59 ? 6 : 0);
        }
        Check.due("another sheet", x.cell(2, 0, 2), 0);
        Check.due("another sheet", x.cell(2, 59, 2), 0);
        put(x, 3, 0, 5, 1, 0);
        put(x, 3, 0, 0, 1, 0);
        Check.due("back to 0", x.cell(3, 0, 2), 0);
        x.sheet(3, 2, 10);
        put(x, 3, 9, 1, 1, 0);
        put(x, 3, 10, 1, -13, 3);
    }

    private static void cutToLanes() {
        Check.says(47, "what comes to a cell of it is cut to its LANE");
        int[] values = {127, 128, -128, -129, 255, 256, 32767, 32768, -32768, -32769, 65535, 65536,
            Integer.MAX_VALUE, Integer.MIN_VALUE};
        int[] bytes = {127, -128, -128, 127, -1, 0, -1, 0, 0, -1, -1, 0, -1, 0};
        int[] shorts = {127, 128, -128, -129, 255, 256, 32767, -32768, -32768, 32767, -1, 0, -1, 0};
        DryLand x = new DryLand();
        for (int lane = 0; lane <= 2; lane++) {
            x.sheet(lane, lane, 1);
        }
        for (int k = 0; k < values.length; k++) {
            for (int lane = 0; lane <= 2; lane++) {
                put(x, lane, 0, values[k], 1, 0);
            }
            Check.due("byte of " + values[k], x.cell(0, 0, 0), bytes[k]);
            Check.due("short of " + values[k], x.cell(1, 0, 1), shorts[k]);
            Check.due("int of " + values[k], x.cell(2, 0, 2), values[k]);
        }
    }

    private static void cell(DryLand x, int k, int i, int lane, long want, int fault) {
        Check.due("cell " + k + " " + i + " " + lane, x.cell(k, i, lane), want);
        Check.due("fault", x.fault(), fault);
    }

    private static void cellRefused() {
        Check.says(48, "LOST: UNKNOWN, OUTSIDE: lane");
        DryLand x = new DryLand();
        x.sheet(0, 0, 1);
        for (int k : new int[] {-1, 4, Integer.MIN_VALUE, Integer.MAX_VALUE}) {
            cell(x, k, 0, 0, DryLand.LOST, 0);
            cell(x, k, -1, 3, DryLand.LOST, 0);
        }
        for (int lane : new int[] {-1, 3, Integer.MIN_VALUE, Integer.MAX_VALUE}) {
            cell(x, 0, 0, lane, DryLand.LOST, 0);
            cell(x, 0, -1, lane, DryLand.LOST, 0);
            cell(x, 1, 0, lane, DryLand.LOST, 0);
        }
    }

    private static void cellInOrder() {
        Check.says(48, "FAULTS CAST (nothing is no CAST), NULL, INDEX");
        DryLand x = new DryLand();
        for (int lane = 0; lane <= 2; lane++) {
            cell(x, 0, 0, lane, DryLand.LOST, 1);
            cell(x, 0, -1, lane, DryLand.LOST, 1);
        }
        for (int lane = 0; lane <= 2; lane++) {
            x.sheet(0, lane, 1);
            cell(x, 0, 0, lane, 0, 0);
            cell(x, 0, 0, (lane + 1) % 3, DryLand.LOST, 2);
            cell(x, 0, 9, (lane + 2) % 3, DryLand.LOST, 2);
            cell(x, 0, 1, lane, DryLand.LOST, 3);
        }
        x.lose(0);
        cell(x, 0, 0, 1, DryLand.LOST, 1);
    }

    private static void cellEnds() {
        Check.says(48, "INDEX");
        DryLand x = new DryLand();
        x.sheet(3, 2, 0);
        cell(x, 3, -1, 2, DryLand.LOST, 3);
        cell(x, 3, 0, 2, DryLand.LOST, 3);
        x.sheet(3, 2, 60);
        x.put(3, 0, Integer.MIN_VALUE);
        x.put(3, 59, Integer.MAX_VALUE);
        cell(x, 3, 0, 2, Integer.MIN_VALUE, 0);
        cell(x, 3, 59, 2, Integer.MAX_VALUE, 0);
        for (int i : new int[] {-1, 60, Integer.MIN_VALUE, Integer.MAX_VALUE}) {
            cell(x, 3, i, 2, DryLand.LOST, 3);
        }
    }

    private static void noFaultAtFirst() {
        Check.says(53, "(0 ahead of any)");
        DryLand x = new DryLand();
        Check.due("at first", x.fault(), 0);
        x.lose(0);
        x.tell(0);
        x.many(99);
        Check.due("calls that name none", x.fault(), 0);
        x.put(0, 0, 0);
        Check.due("then one", x.fault(), 1);
        Check.due("asking leaves it", x.fault(), 1);
        Check.due("of this object alone", new DryLand().fault(), 0);
    }

    /** Each call that names faults, refused: UNKNOWN, OUTSIDE, FULL and -100 less a first fault. */
    private static void refusedIsNoFault() {
        Check.says(53, "0: it came to none, or was refused");
        DryLand x = new DryLand();
        Check.row(x, 0, 0, Check.codes("m0@1-2"));
        Check.row(x, 1, 0, 1, 10);
        x.cask(0, 0);
        for (int l = 0; l < 24; l++) {
            x.text(0, 0, 0, 6);
            x.agent(1, 0, 0, 1);
            x.truck(0, 0, 1, 0, 0, 1);
        }
        clears(x, x.as(0, 1), x.text(9, 0, 0, 6), DryLand.UNKNOWN);
        clears(x, x.as(0, 1), x.text(0, 9, 0, 6), DryLand.OUTSIDE);
        clears(x, x.as(0, 1), x.text(0, 0, 0, 5), -105);
        clears(x, x.as(0, 1), x.text(0, 0, 0, 6), DryLand.FULL);
        clears(x, x.as(0, 1), x.more(0, 9, 0, 0, 6), DryLand.UNKNOWN);
        clears(x, x.as(0, 1), x.more(100, 0, 0, 0, 6), DryLand.OUTSIDE);
        clears(x, x.as(0, 1), x.more(0, 0, 0, 0, 5), -105);
        clears(x, x.as(0, 1), x.more(0, 0, 0, 0, 6), 0);
        clears(x, x.as(0, 1), x.agent(9, 0, 0, 1), DryLand.UNKNOWN);
        clears(x, x.as(0, 1), x.agent(0, 9, 0, 1), DryLand.OUTSIDE);
        clears(x, x.as(0, 1), x.agent(1, 0, 0, 0), DryLand.OUTSIDE);
        clears(x, x.as(0, 1), x.agent(1, 0, 0, 2), DryLand.OUTSIDE);
        clears(x, x.as(0, 1), x.agent(1, 0, 0, 1), DryLand.FULL);
        clears(x, x.as(0, 1), x.truck(0, 0, 9, 0, 0, 1), DryLand.UNKNOWN);
        clears(x, x.as(0, 1), x.truck(12, 0, 1, 0, 0, 1), DryLand.OUTSIDE);
        clears(x, x.as(0, 1), x.truck(0, 0, 1, 0, 0, 2), DryLand.OUTSIDE);
        clears(x, x.as(0, 1), x.truck(0, 0, 1, 0, 0, 1), DryLand.FULL);
        clears(x, x.as(0, 1), x.sheet(9, 0, 1), DryLand.UNKNOWN);
        clears(x, x.as(0, 1), x.sheet(0, 0, 61), DryLand.OUTSIDE);
        clears(x, x.as(0, 1), x.sheet(2, 0, 1), 1);
        clears(x, x.as(0, 1), x.put(9, 0, 0), DryLand.UNKNOWN);
        clears(x, x.as(0, 1), x.put(2, 0, 0), 1);
        clears(x, x.as(0, 1), x.cell(9, 0, 0), DryLand.LOST);
        clears(x, x.as(0, 1), x.cell(0, 0, 9), DryLand.LOST);
        clears(x, x.as(0, 1), x.cell(2, 0, 0), 0);
        clears(x, x.as(0, 1), x.as(9, 0), DryLand.UNKNOWN);
        clears(x, x.as(0, 1), x.as(0, 9), DryLand.OUTSIDE);
        clears(x, x.as(0, 1), x.as(0, 0), 1);
    }

    private static void clears(DryLand x, int cast, long got, long want) {
        Check.due("a cast ahead of it", cast, -12);
        Check.due("the call", got, want);
        Check.due("fault", x.fault(), 0);
    }

    /** Calls that name no faults leave fault() as it was, whether they are refused or not. */
    private static void latestThatNamesOne() {
        Check.says(53, "The FAULT of the latest call that names one");
        DryLand x = new DryLand();
        x.sheet(0, 0, -1);
        long sum = x.strike(0, 0) + x.line(0, 0) + x.stops(0, 0, 0, 0, 0) + x.stops(9, 0, 0, 0, 0)
            + x.why(0, 0, 0, 0, 0) + x.why(9, 0, 0, 0, 0) + x.force(0) + x.force(-1)
            + x.step(0, 1, 0, 0, 0, 0) + x.step(0, 0, 0, 0, 0, 0) + x.least(0, 0) + x.least(-1, 0)
            + x.doctor(1) + x.doctor(0) + x.slip(0, 0, 0) + x.slip(9, 0, 0) + x.twice()
            + x.tooMany(0, -1) + x.tooMany(9, 0) + x.came(0, 0) + x.meets(0) + x.worlds()
            + x.sure(0, 0) + x.sure(9, 0);
        Check.due("parts 1 to 4", x.fault(), 4);
        sum += x.cask(1, 1) + x.cask(9, 0) + x.person() + x.drank(0, 0, 0) + x.drank(9, 0, 0)
            + x.fell(0, true, 0) + x.fell(9, true, 0) + x.cut(0, 0) + x.cut(-1, 0) + x.knew(0) + x.knew(9)
            + x.raid(true) + x.paper(1) + x.paper(0) + x.met(0, true) + x.met(1, true) + x.met(9, true)
            + x.voids() + x.saved(0) + x.saved(9) + x.worst();
        Check.due("parts 5 and 6", x.fault(), 4);
        sum += x.court(1, 1) + x.court(0, 0) + x.sue(1, 0, 0) + x.sue(0, 0, 0) + x.heard(0, 0) + x.heard(9, 0)
            + x.waiting(0) + x.waiting(-1) + x.juror(1, 1) + x.juror(2, 1) + x.jury(0, 0) + x.jury(9, 0)
            + x.dismiss() + x.miles(1) + x.miles(0) + x.chase(0, 0, 0, 0, 0, 0, 1) + x.chase(0, 0, 0, 0, 0, 0, 0)
            + x.town(1, 1) + x.town(-1, 0) + x.week(0, 1) + x.week(9, 0) + x.week(0, -1)
            + x.ofTown(0, 0) + x.ofTown(9, 0);
        Check.due("parts 7 and 8", x.fault(), 4);
        sum += x.lose(0) + x.lose(9) + x.tell(0) + x.tell(9) + x.hang(0) + x.hang(9) + x.trace() + x.fault()
            + x.many(0) + x.many(99);
        Check.due("part 9", x.fault(), 4);
        Check.holds("all were asked", sum != 0);
    }

    private static void manyRefused() {
        Check.says(54, "OUTSIDE");
        DryLand x = new DryLand();
        for (int what : new int[] {-1, 12, Integer.MIN_VALUE, Integer.MAX_VALUE}) {
            Check.due("many " + what, x.many(what), DryLand.OUTSIDE);
        }
        Check.due("many 0", x.many(0), 0);
        Check.due("many 11", x.many(11), 0);
    }

    private static void manyAtMost() {
        Check.says(54, "How many");
        int[] most = {24, 24, 40, 8, 12, 12, 12, 60, 24, 30, 6, 12};
        DryLand x = Lands.full();
        for (int what = 0; what <= 11; what++) {
            Check.due("many " + what, x.many(what), most[what]);
        }
    }

    private static void lastCall() {
        Check.says(1, "An object is used for at most 512 calls after it has been made");
        DryLand x = new DryLand();
        x.cask(0, 0);
        x.sheet(0, 2, 60);
        for (int call = 3; call <= 511; call++) {
            x.put(0, call % 60, call);
        }
        Check.due("call 512", x.cell(0, 511 % 60, 2), 511);
    }
}
