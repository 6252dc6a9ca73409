/** Promises 33 to 39, sentence by sentence: the bounds that the document names. */
public final class CourtsBoundsTest {
    public static void main(String[] args) {
        courtRefused();
        courtBounds();
        heardThen();
        sueRefused();
        sueBounds();
        thirtyEver();
        heardRefused();
        heardOnNone();
        whatIsLeftOfHisDay();
        haveCome();
        greatestRank();
        cameFirst();
        thenByNumber();
        tillNoneFits();
        dayByDayJudgeByJudge();
        theLastDay();
        waitingRefused();
        waitingDays();
        jurorRefused();
        twelveJurors();
        dismissed();
        juryRefused();
        leastTerms();
        allOrNone();
        greatestNumbers();
        Check.covers(33, 39);
        Check.end();
    }

    private static void courtRefused() {
        Check.says(33, "OUTSIDE");
        DryLand x = new DryLand();
        x.sue(300, 0, 0);
        x.sue(300, 0, 0);
        for (int judges : new int[] {0, 5, -1, Integer.MIN_VALUE, Integer.MAX_VALUE}) {
            Check.due("judges " + judges, x.court(judges, 600), DryLand.OUTSIDE);
        }
        for (int minutes : new int[] {0, 601, -1, Integer.MIN_VALUE, Integer.MAX_VALUE}) {
            Check.due("minutes " + minutes, x.court(4, minutes), DryLand.OUTSIDE);
        }
        Check.due("still one judge of 300", x.heard(1, 3), 1);
        Check.due("still one judge of 300", x.heard(1, 4), 0);
    }

    private static void courtBounds() {
        Check.says(33, "JUDGES (1 .. 4; 1 at first), each with so many minutes a DAY (1 .. 600; 300 at first)");
        DryLand x = new DryLand();
        for (int c = 0; c < 5; c++) {
            x.sue(1, 99, 0);
        }
        Check.due("the least", x.court(1, 1), 1);
        Check.due("four judges", x.court(4, 1), 4);
        Check.due("600 minutes", x.court(1, 600), 5);
        Check.due("the most", x.court(4, 600), 5);
        DryLand y = new DryLand();
        for (int c = 0; c < 5; c++) {
            y.sue(600, 99, 0);
        }
        Check.due("one too few", y.court(4, 599), 0);
        Check.due("just enough", y.court(1, 600), 1);
        Check.due("just enough for four", y.court(4, 600), 4);
    }

    private static void heardThen() {
        Check.says(33, "how many CASES are heard then");
        DryLand x = new DryLand();
        Check.due("no cases", x.court(4, 600), 0);
        for (int c = 0; c < 30; c++) {
            x.sue(600, 0, 0);
        }
        Check.due("all", x.court(1, 600), 30);
        Check.due("none", x.court(1, 599), 0);
        Check.due("all again", x.court(3, 600), 30);
        Check.due("what was not heard then", x.heard(29, 3), 9);
    }

    private static void sueRefused() {
        Check.says(34, "OUTSIDE; FULL");
        DryLand x = new DryLand();
        for (int minutes : new int[] {0, 601, -1, Integer.MIN_VALUE, Integer.MAX_VALUE}) {
            Check.due("minutes " + minutes, x.sue(minutes, 0, 0), DryLand.OUTSIDE);
        }
        for (int day : new int[] {-1, 100, Integer.MIN_VALUE, Integer.MAX_VALUE}) {
            Check.due("day " + day, x.sue(1, day, 0), DryLand.OUTSIDE);
        }
        for (int rank : new int[] {-1, 10, Integer.MIN_VALUE, Integer.MAX_VALUE}) {
            Check.due("rank " + rank, x.sue(1, 0, rank), DryLand.OUTSIDE);
        }
        Check.due("many", x.many(9), 0);
        Check.due("waiting", x.waiting(99), 0);
    }

    private static void sueBounds() {
        Check.says(34, "of minutes (1 .. 600), a DAY on which it comes, a RANK (0 .. 9)");
        DryLand x = new DryLand();
        int[][] cases = {{1, 50, 5}, {600, 50, 5}, {30, 0, 5}, {30, 99, 5}, {30, 50, 0}, {30, 50, 9}};
        for (int c = 0; c < cases.length; c++) {
            Check.due("sue " + c, x.sue(cases[c][0], cases[c][1], cases[c][2]), c);
            for (int what = 0; what <= 2; what++) {
                Check.due("heard " + c + " " + what, x.heard(c, what), cases[c][what]);
            }
        }
    }

    private static void thirtyEver() {
        Check.says(34, "30 ever");
        DryLand x = new DryLand();
        for (int c = 0; c < 30; c++) {
            Check.due("sue " + c, x.sue(300, 0, 0), c);
        }
        Check.due("sue 30", x.sue(1, 0, 9), DryLand.FULL);
        Check.due("of no minutes", x.sue(0, 0, 9), DryLand.OUTSIDE);
        Check.due("of no day", x.sue(1, 100, 9), DryLand.OUTSIDE);
        Check.due("of no rank", x.sue(1, 0, 10), DryLand.OUTSIDE);
        Check.due("many", x.many(9), 30);
        Check.due("the first", x.heard(0, 3), 0);
        Check.due("the last", x.heard(29, 3), 29);
        Check.due("behind it", x.heard(30, 3), DryLand.UNKNOWN);
        Check.due("waiting", x.waiting(0), 29);
    }

    private static void heardRefused() {
        Check.says(35, "UNKNOWN; OUTSIDE");
        DryLand x = new DryLand();
        Check.due("none yet", x.heard(0, 0), DryLand.UNKNOWN);
        x.sue(7, 8, 9);
        for (int c : new int[] {-1, 1, Integer.MIN_VALUE, Integer.MAX_VALUE}) {
            Check.due("case " + c, x.heard(c, 0), DryLand.UNKNOWN);
            Check.due("case " + c, x.heard(c, 5), DryLand.UNKNOWN);
        }
        for (int what : new int[] {-1, 5, Integer.MIN_VALUE, Integer.MAX_VALUE}) {
            Check.due("what " + what, x.heard(0, what), DryLand.OUTSIDE);
        }
        int[] want = {7, 8, 9, 8, 0};
        for (int what = 0; what <= 4; what++) {
            Check.due("what " + what, x.heard(0, what), want[what]);
        }
    }

    private static void heardOnNone() {
        Check.says(35, "3 the DAY on which it is heard (NONE: on none of them), 4 the JUDGE (NONE)");
        DryLand x = new DryLand();
        x.sue(300, 0, 0);
        x.sue(301, 0, 0);
        when(x, 0, 0, 0);
        when(x, 1, DryLand.NONE, DryLand.NONE);
        x.court(4, 299);
        when(x, 0, DryLand.NONE, DryLand.NONE);
        x.court(4, 301);
        when(x, 0, 0, 0);
        when(x, 1, 0, 1);
    }

    private static void when(DryLand x, int c, int day, int judge) {
        Check.due("day of " + c, x.heard(c, 3), day);
        Check.due("judge of " + c, x.heard(c, 4), judge);
    }

    private static void whatIsLeftOfHisDay() {
        Check.says(35, "that fit what is left of his DAY");
        DryLand x = new DryLand();
        x.sue(200, 0, 9);
        x.sue(100, 0, 8);
        x.sue(1, 0, 7);
        when(x, 1, 0, 0);
        when(x, 2, 1, 0);
        DryLand y = new DryLand();
        y.sue(200, 0, 9);
        y.sue(101, 0, 8);
        y.sue(100, 0, 0);
        // What does not fit is passed by for what does.
        when(y, 1, 1, 0);
        when(y, 2, 0, 0);
    }

    private static void haveCome() {
        Check.says(35, "of CASES that have come and were not heard");
        DryLand x = new DryLand();
        x.sue(300, 5, 9);
        x.sue(300, 4, 0);
        x.sue(300, 4, 0);
        when(x, 0, 5, 0);
        when(x, 1, 4, 0);
        when(x, 2, 6, 0);
    }

    private static void greatestRank() {
        Check.says(35, "the one of the greatest RANK");
        DryLand x = new DryLand();
        int[] ranks = {0, 9, 5, 8, 1};
        int[] days = {4, 0, 2, 1, 3};
        for (int rank : ranks) {
            x.sue(300, 0, rank);
        }
        for (int c = 0; c < days.length; c++) {
            when(x, c, days[c], 0);
        }
        // Rank goes ahead of which came first.
        x.sue(300, 2, 6);
        when(x, 5, 2, 0);
        when(x, 2, 3, 0);
    }

    private static void cameFirst() {
        Check.says(35, "of like ones that which came first");
        DryLand x = new DryLand();
        x.sue(600, 0, 9);
        x.sue(300, 3, 4);
        x.sue(300, 2, 4);
        x.sue(300, 1, 4);
        x.sue(300, 1, 9);
        // Day 1: 4. Day 2: 3, which came on day 1. Day 3: 2. Day 4: 1.
        when(x, 4, 1, 0);
        when(x, 3, 2, 0);
        when(x, 2, 3, 0);
        when(x, 1, 4, 0);
    }

    private static void thenByNumber() {
        Check.says(35, "then by number");
        DryLand x = new DryLand();
        for (int c = 0; c < 30; c++) {
            x.sue(300, 50, 5);
        }
        for (int c = 0; c < 30; c++) {
            when(x, c, 50 + c, 0);
        }
    }

    private static void tillNoneFits() {
        Check.says(35, "and so on, till none fits");
        DryLand x = new DryLand();
        for (int c = 0; c < 30; c++) {
            x.sue(20, 0, 0);
        }
        Check.due("all on one day", x.court(1, 600), 30);
        when(x, 29, 0, 0);
        Check.due("a minute too few", x.court(1, 599), 30);
        when(x, 28, 0, 0);
        when(x, 29, 1, 0);
    }

    private static void dayByDayJudgeByJudge() {
        Check.says(35, "DAY by DAY, JUDGE by JUDGE");
        DryLand x = new DryLand();
        for (int c = 0; c < 10; c++) {
            x.sue(200, 0, 0);
        }
        x.court(4, 399);
        for (int c = 0; c < 10; c++) {
            when(x, c, c / 4, c % 4);
        }
        // The first judge fills his day before the second begins his.
        x.court(2, 400);
        for (int c = 0; c < 10; c++) {
            when(x, c, c / 4, c % 4 / 2);
        }
    }

    private static void theLastDay() {
        Check.says(35, "(NONE: on none of them)");
        DryLand x = new DryLand();
        x.sue(300, 98, 0);
        x.sue(300, 98, 0);
        x.sue(300, 98, 0);
        when(x, 0, 98, 0);
        when(x, 1, 99, 0);
        when(x, 2, DryLand.NONE, DryLand.NONE);
        Check.due("two of three", x.court(1, 300), 2);
        Check.due("with two judges all", x.court(2, 300), 3);
    }

    private static void waitingRefused() {
        Check.says(36, "OUTSIDE");
        DryLand x = new DryLand();
        for (int day : new int[] {-1, 100, Integer.MIN_VALUE, Integer.MAX_VALUE}) {
            Check.due("day " + day, x.waiting(day), DryLand.OUTSIDE);
        }
        Check.due("no cases", x.waiting(0), 0);
        Check.due("no cases", x.waiting(99), 0);
    }

    private static void waitingDays() {
        Check.says(36, "that came on that DAY or ahead were not heard on it or ahead");
        DryLand x = new DryLand();
        x.sue(300, 10, 0);
        x.sue(300, 10, 0);
        x.sue(301, 20, 0);
        x.sue(300, 99, 0);
        x.sue(300, 99, 0);
        int[] days = {0, 9, 10, 11, 19, 20, 98, 99};
        int[] want = {0, 0, 1, 0, 0, 1, 1, 2};
        for (int k = 0; k < days.length; k++) {
            Check.due("day " + days[k], x.waiting(days[k]), want[k]);
        }
        x.court(1, 1);
        Check.due("none is heard", x.waiting(9), 0);
        Check.due("none is heard", x.waiting(99), 5);
    }

    private static void jurorRefused() {
        Check.says(37, "OUTSIDE; FULL // (1 <= q <= 20, 0 <= p <= q)");
        DryLand x = new DryLand();
        int[][] outside = {{0, 0}, {1, 0}, {0, 21}, {21, 21}, {-1, 1}, {2, 1}, {21, 20}, {-1, 20}, {0, -1}, {-1, -1},
            {Integer.MIN_VALUE, 5}, {Integer.MAX_VALUE, 5}, {0, Integer.MIN_VALUE}, {0, Integer.MAX_VALUE}};
        for (int[] o : outside) {
            Check.due("juror " + o[0] + " " + o[1], x.juror(o[0], o[1]), DryLand.OUTSIDE);
        }
        Check.due("many", x.many(11), 0);
        int[][] inside = {{0, 1}, {1, 1}, {0, 20}, {20, 20}, {19, 20}};
        for (int k = 0; k < inside.length; k++) {
            Check.due("juror " + inside[k][0] + " " + inside[k][1], x.juror(inside[k][0], inside[k][1]), k + 1);
        }
    }

    private static void twelveJurors() {
        Check.says(37, "jurors, 12 at most");
        DryLand x = new DryLand();
        for (int k = 1; k <= 12; k++) {
            Check.due("juror " + k, x.juror(1, 2), k);
        }
        Check.due("juror 13", x.juror(1, 2), DryLand.FULL);
        Check.due("of no odds", x.juror(2, 1), DryLand.OUTSIDE);
        Check.due("of no odds", x.juror(0, 21), DryLand.OUTSIDE);
        Check.due("many", x.many(11), 12);
        share(x, 0, 1, 4096);
        share(x, 2, 2047, 2048);
        x.dismiss();
        Check.due("not ever, at most", x.juror(1, 2), 1);
    }

    private static void dismissed() {
        Check.says(38, "No jurors: how many there were");
        DryLand x = new DryLand();
        Check.due("none yet", x.dismiss(), 0);
        x.juror(0, 20);
        Check.due("one", x.dismiss(), 1);
        Check.due("none", x.dismiss(), 0);
        Check.due("many", x.many(11), 0);
        Check.due("no share", x.jury(0, 0), DryLand.LOST);
        for (int k = 0; k < 12; k++) {
            x.juror(1, 20);
        }
        Check.due("twelve", x.dismiss(), 12);
        x.juror(2, 3);
        share(x, 0, 2, 3);
        share(x, 1, 1, 3);
        share(x, 2, 0, 1);
    }

    private static void juryRefused() {
        Check.says(39, "LOST: OUTSIDE; there are no jurors");
        DryLand x = new DryLand();
        for (int what = 0; what <= 2; what++) {
            Check.due("no jurors", x.jury(what, 0), DryLand.LOST);
            Check.due("no jurors", x.jury(what, 1), DryLand.LOST);
        }
        x.juror(1, 2);
        for (int what : new int[] {-1, 3, Integer.MIN_VALUE, Integer.MAX_VALUE}) {
            Check.due("what " + what, x.jury(what, 0), DryLand.LOST);
            Check.due("what " + what, x.jury(what, 1), DryLand.LOST);
        }
        for (int which : new int[] {-1, 2, Integer.MIN_VALUE, Integer.MAX_VALUE}) {
            for (int what = 0; what <= 2; what++) {
                Check.due("which " + which, x.jury(what, which), DryLand.LOST);
            }
        }
    }

    private static void leastTerms() {
        Check.says(39, "Shares are told as upper and lower number (above 0) in least terms");
        DryLand x = new DryLand();
        x.juror(10, 20);
        share(x, 0, 1, 2);
        share(x, 1, 1, 2);
        share(x, 2, 0, 1);
        x.juror(4, 6);
        share(x, 0, 1, 3);
        share(x, 1, 1, 6);
        share(x, 2, 1, 2);
        x.juror(5, 7);
        share(x, 0, 5, 21);
        share(x, 1, 1, 21);
        share(x, 2, 5, 7);
    }

    private static void allOrNone() {
        Check.says(39, "GUILTY if all are, FREE if none is, else it HANGS");
        DryLand guilty = new DryLand();
        DryLand free = new DryLand();
        for (int k = 0; k < 12; k++) {
            guilty.juror(20, 20);
            free.juror(0, 20);
            share(guilty, 0, 1, 1);
            share(guilty, 1, 0, 1);
            share(guilty, 2, 0, 1);
            share(free, 0, 0, 1);
            share(free, 1, 1, 1);
            share(free, 2, 0, 1);
        }
        DryLand hangs = new DryLand();
        hangs.juror(1, 1);
        hangs.juror(0, 1);
        share(hangs, 0, 0, 1);
        share(hangs, 1, 0, 1);
        share(hangs, 2, 1, 1);
    }

    private static void greatestNumbers() {
        Check.says(39, "lower (1)");
        DryLand x = new DryLand();
        for (int k = 0; k < 12; k++) {
            x.juror(19, 20);
        }
        // 19 and 1 share nothing with 20; 20 to the 12th less 19 to the 12th and 1 is even.
        share(x, 0, 2213314919066161L, 4096000000000000L);
        share(x, 1, 1, 4096000000000000L);
        share(x, 2, 941342540466919L, 2048000000000000L);
    }

    private static void share(DryLand x, int what, long upper, long lower) {
        Check.due("jury " + what + " upper", x.jury(what, 0), upper);
        Check.due("jury " + what + " lower", x.jury(what, 1), lower);
    }
}
