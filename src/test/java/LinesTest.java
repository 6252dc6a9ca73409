/** Promises 1 to 7: lines. */
public final class LinesTest {
    public static void main(String[] args) {
        newObject();
        texts();
        firstFaults();
        refusedTexts();
        strikes();
        linesAsked();
        deeds();
        forces();
        Check.end();
    }

    private static void newObject() {
        DryLand x = new DryLand();
        for (int what = 0; what <= 11; what++) {
            Check.due("new: many " + what, x.many(what), 0);
        }
        Check.due("new: fault", x.fault(), 0);
        Check.due("new: trace", x.trace(), 0);
        Check.due("new: worlds", x.worlds(), 1);
        Check.due("new: voids", x.voids(), 0);
        Check.due("new: twice", x.twice(), 0);
        Check.due("new: miles", x.miles(5), 3);
        for (int k = 0; k < 4; k++) {
            Check.due("new: sheet " + k, x.lose(k), 0);
        }
        // One judge of 300 minutes: one minute more waits a day, a case of 301 waits for ever.
        Check.due("new: sue", x.sue(300, 0, 0), 0);
        Check.due("new: sue", x.sue(301, 0, 0), 1);
        Check.due("new: sue", x.sue(1, 0, 0), 2);
        Check.due("new: heard", x.heard(0, 3), 0);
        Check.due("new: heard", x.heard(1, 3), DryLand.NONE);
        Check.due("new: heard", x.heard(2, 3), 1);
    }

    private static void texts() {
        DryLand x = new DryLand();
        String[] good = {"m0@0-9", "s3@00-99", "c*@5-05", "k2>0@1-2", "m1>99@1-2!d", "m1>9@1-2!vepd", "s*@9-1"};
        for (int l = 0; l < good.length; l++) {
            Check.due("text " + good[l], Check.tell(x, good[l]), l);
        }
        line(x, 0, 0, 0, DryLand.NONE, 0, 9, 0);
        line(x, 1, 1, 3, DryLand.NONE, 0, 99, 0);
        line(x, 2, 2, 4, DryLand.NONE, 5, 5, 0);
        line(x, 3, 3, 2, 0, 1, 2, 0);
        line(x, 4, 0, 1, 99, 1, 2, 1);
        line(x, 5, 0, 1, 9, 1, 2, 15);
        line(x, 6, 1, 4, DryLand.NONE, 9, 1, 0);
        // A part of a row, and the three lanes.
        for (int lane = 0; lane <= 2; lane++) {
            Check.row(x, 3, lane, Check.codes("zzm0@1-7!pzz"));
            Check.due("text of a part", x.text(3, lane, 2, 8), 7 + 2 * lane);
            Check.due("text of a part", x.text(3, lane, 2, 6), 8 + 2 * lane);
            line(x, 7 + 2 * lane, 0, 0, DryLand.NONE, 1, 7, 2);
        }
        Check.due("how many", x.many(0), 13);
    }

    private static void line(DryLand x, int l, int... parts) {
        for (int what = 0; what < parts.length; what++) {
            Check.due("line " + l + " " + what, x.line(l, what), parts[what]);
        }
        Check.due("line " + l + " struck", x.line(l, 6), DryLand.NONE);
    }

    private static void firstFaults() {
        DryLand x = new DryLand();
        fault(x, "", 0);
        fault(x, "M0@0-9", 0);
        fault(x, "m", 1);
        fault(x, "m4@0-9", 1);
        fault(x, "mm0@0-9", 1);
        fault(x, "m0", 2);
        fault(x, "m00@0-9", 2);
        fault(x, "m0!d", 2);
        fault(x, "m0>", 3);
        fault(x, "m0>@0-9", 3);
        fault(x, "m0>5", 4);
        fault(x, "m0>5>6@0-9", 4);
        fault(x, "m0>55", 5);
        fault(x, "m0>555@0-9", 5);
        fault(x, "m0@", 3);
        fault(x, "m0@-9", 3);
        fault(x, "m0@1", 4);
        fault(x, "m0@12", 5);
        fault(x, "m0@123-4", 5);
        fault(x, "m0@1-", 5);
        fault(x, "m0@1-!d", 5);
        fault(x, "m0@1-2d", 6);
        fault(x, "m0@1-22 ", 7);
        fault(x, "m0@1-222", 7);
        fault(x, "m0@1-2!", 7);
        fault(x, "m0@1-2!x", 7);
        fault(x, "m0@1-2!!d", 7);
        fault(x, "m0@1-2!dd", 8);
        fault(x, "m0@1-2!dpd", 9);
        fault(x, "m0@1-2!dpevd", 11);
        fault(x, "m0@1-2!dpevx", 11);
        fault(x, "m0@1-2!d3", 8);
        Check.due("no line came of it", x.many(0), 0);
        // Codes are whole numbers, not their lowest bits.
        Check.row(x, 0, 2, 109 + 65536, 48, 64, 48, 45, 57);
        Check.due("text of 65645", x.text(0, 2, 0, 6), -100);
        Check.row(x, 0, 1, 109, 48 + 256, 64, 48, 45, 57);
        Check.due("text of 304", x.text(0, 1, 0, 6), -101);
        Check.row(x, 0, 0, 109, 48, -64, 48, 45, 57);
        Check.due("text of -64", x.text(0, 0, 0, 6), -102);
        // A fault of a text is none of the machine's.
        Check.due("fault", x.fault(), 0);
    }

    private static void fault(DryLand x, String text, int place) {
        Check.due("text " + text, Check.tell(x, text), -100 - place);
        Check.due("more " + text, x.more(0, 0, 2, 0, text.length()), -100 - place);
    }

    private static void refusedTexts() {
        DryLand x = new DryLand();
        Check.row(x, 0, 1, Check.codes("m0@0-9"));
        ask(x, -1, 9, -1, -1, DryLand.UNKNOWN, 0);
        ask(x, 4, 9, -1, -1, DryLand.UNKNOWN, 0);
        ask(x, 0, -1, -1, -1, DryLand.OUTSIDE, 0);
        ask(x, 0, 3, 0, 6, DryLand.OUTSIDE, 0);
        ask(x, 0, 0, -1, -1, -12, 2);
        ask(x, 0, 2, 0, 6, -12, 2);
        ask(x, 1, 0, -1, -1, -11, 1);
        ask(x, 1, 2, 0, 0, -11, 1);
        ask(x, 0, 1, -1, -1, -14, 4);
        ask(x, 0, 1, 0, Integer.MIN_VALUE, -14, 4);
        ask(x, 0, 1, -1, 0, -13, 3);
        ask(x, 0, 1, 7, 0, -13, 3);
        ask(x, 0, 1, 1, 6, -13, 3);
        ask(x, 0, 1, 6, 1, -13, 3);
        ask(x, 0, 1, 5, Integer.MAX_VALUE, -13, 3);
        ask(x, 0, 1, Integer.MAX_VALUE, 1, -13, 3);
        ask(x, 0, 1, Integer.MIN_VALUE, Integer.MAX_VALUE, -13, 3);
        ask(x, 0, 1, 6, 0, -100, 0);
        for (int l = 0; l < 24; l++) {
            ask(x, 0, 1, 0, 6, l, 0);
        }
        ask(x, 0, 1, 0, 6, DryLand.FULL, 0);
        ask(x, 0, 1, 0, 5, -105, 0);
        ask(x, 0, 1, 0, 7, -13, 3);
        ask(x, 0, 1, 0, 6, DryLand.FULL, 0);
        Check.due("how many", x.many(0), 24);
        Check.due("the last line", x.line(23, 4), 9);
        Check.due("behind the last line", x.line(24, 4), DryLand.UNKNOWN);
        Check.due("behind the last line", x.strike(24, 0), DryLand.UNKNOWN);
        Check.due("force", x.force(9), 24);
    }

    private static void ask(DryLand x, int sheet, int lane, int i, int n, int want, int fault) {
        Check.due("text " + sheet + " " + lane + " " + i + " " + n, x.text(sheet, lane, i, n), want);
        Check.due("fault", x.fault(), fault);
    }

    private static void strikes() {
        DryLand x = new DryLand();
        Check.due("strike of none", x.strike(0, 100), DryLand.UNKNOWN);
        Check.tell(x, "m*@10-20");
        Check.due("strike", x.strike(-1, 5), DryLand.UNKNOWN);
        Check.due("strike", x.strike(1, 5), DryLand.UNKNOWN);
        Check.due("strike", x.strike(0, -1), DryLand.OUTSIDE);
        Check.due("strike", x.strike(0, 100), DryLand.OUTSIDE);
        Check.due("not struck", x.line(0, 6), DryLand.NONE);
        Check.due("strike", x.strike(0, 15), DryLand.NONE);
        Check.due("ahead of it", x.stops(0, 0, 0, 4, 14), 1);
        Check.due("on it", x.stops(0, 0, 0, 4, 15), 0);
        Check.due("strike", x.strike(0, 99), 15);
        Check.due("in its place", x.stops(0, 0, 0, 4, 15), 1);
        Check.due("strike", x.strike(0, 0), 99);
        Check.due("strike", x.strike(0, 0), 0);
        Check.due("never", x.stops(0, 0, 0, 4, 10), 0);
        Check.due("struck", x.line(0, 6), 0);
    }

    private static void linesAsked() {
        DryLand x = new DryLand();
        Check.due("line of none", x.line(0, 9), DryLand.UNKNOWN);
        Check.tell(x, "k3>7@8-9!ev");
        line(x, 0, 3, 3, 7, 8, 9, 12);
        Check.due("line", x.line(-1, 0), DryLand.UNKNOWN);
        Check.due("line", x.line(1, 0), DryLand.UNKNOWN);
        Check.due("line", x.line(0, -1), DryLand.OUTSIDE);
        Check.due("line", x.line(0, 7), DryLand.OUTSIDE);
    }

    private static void deeds() {
        DryLand x = new DryLand();
        Check.tell(x, "m1>10@5-8!dv");
        Check.tell(x, "m*@8-9");
        deed(x, 0, 1, 11, 4, 5, 0);
        deed(x, 0, 1, 10, 4, 5, DryLand.NONE);
        deed(x, 0, 1, 11, 4, 4, DryLand.NONE);
        deed(x, 0, 1, 11, 4, 8, 0);
        deed(x, 0, 1, 11, 4, 9, 1);
        deed(x, 0, 1, 11, 4, 10, DryLand.NONE);
        deed(x, 0, 1, 11, 0, 5, DryLand.NONE);
        deed(x, 0, 1, 11, 1, 5, 0);
        deed(x, 0, 1, 11, 2, 5, 0);
        deed(x, 0, 1, 11, 3, 5, DryLand.NONE);
        deed(x, 0, 1, 11, 3, 8, 1);
        deed(x, 0, 2, 11, 4, 5, DryLand.NONE);
        deed(x, 0, 2, 0, 4, 8, 1);
        deed(x, 1, 1, 11, 4, 8, DryLand.NONE);
        int[][] outside = {{-1, 0, 0, 0, 0}, {4, 0, 0, 0, 0}, {0, -1, 0, 0, 0}, {0, 4, 0, 0, 0}, {0, 0, -1, 0, 0},
            {0, 0, 100, 0, 0}, {0, 0, 0, -1, 0}, {0, 0, 0, 5, 0}, {0, 0, 0, 0, -1}, {0, 0, 0, 0, 100}};
        for (int[] d : outside) {
            Check.due("stops", x.stops(d[0], d[1], d[2], d[3], d[4]), DryLand.OUTSIDE);
            Check.due("why", x.why(d[0], d[1], d[2], d[3], d[4]), DryLand.OUTSIDE);
        }
        Check.due("stops at the ends", x.stops(3, 3, 99, 4, 99), 0);
    }

    private static void deed(DryLand x, int verb, int kind, int strength, int who, int day, int want) {
        Check.due("why on " + day, x.why(verb, kind, strength, who, day), want);
        Check.due("stops on " + day, x.stops(verb, kind, strength, who, day), want == DryLand.NONE ? 0 : 1);
    }

    private static void forces() {
        DryLand x = new DryLand();
        Check.tell(x, "m0@5-10");
        Check.tell(x, "s1@10-20");
        Check.tell(x, "s1@20-10");
        Check.tell(x, "k1@0-99");
        int[] days = {0, 4, 5, 10, 11, 20, 21, 99};
        int[] want = {1, 1, 2, 3, 2, 2, 1, 1};
        for (int k = 0; k < days.length; k++) {
            Check.due("force " + days[k], x.force(days[k]), want[k]);
        }
        x.strike(1, 10);
        x.strike(3, 6);
        Check.due("force of struck", x.force(5), 2);
        Check.due("force of struck", x.force(6), 1);
        Check.due("force of struck", x.force(10), 1);
        Check.due("force", x.force(-1), DryLand.OUTSIDE);
        Check.due("force", x.force(100), DryLand.OUTSIDE);
    }
}
