/** Promises 33 to 39: courts, cases, juries. */
public final class CourtsTest {
    public static void main(String[] args) {
        courts();
        cases();
        order();
        waiting();
        jurors();
        juries();
        Check.end();
    }

    private static void courts() {
        DryLand x = new DryLand();
        int[][] outside = {{0, 300}, {5, 300}, {1, 0}, {1, 601}, {-1, -1}};
        for (int[] o : outside) {
            Check.due("court", x.court(o[0], o[1]), DryLand.OUTSIDE);
        }
        for (int c = 0; c < 10; c++) {
            x.sue(200, 99, 0);
        }
        Check.due("court", x.court(1, 199), 0);
        Check.due("court", x.court(1, 200), 1);
        Check.due("court", x.court(4, 200), 4);
        Check.due("court", x.court(1, 600), 3);
        Check.due("court", x.court(4, 600), 10);
        Check.due("court", x.court(5, 600), DryLand.OUTSIDE);
        Check.due("as it was", x.heard(9, 4), 3);
        Check.due("as it was", x.heard(8, 4), 2);
    }

    private static void cases() {
        DryLand x = new DryLand();
        int[][] outside = {{0, 0, 0}, {601, 0, 0}, {1, -1, 0}, {1, 100, 0}, {1, 0, -1}, {1, 0, 10}};
        for (int[] o : outside) {
            Check.due("sue", x.sue(o[0], o[1], o[2]), DryLand.OUTSIDE);
        }
        Check.due("heard", x.heard(0, 9), DryLand.UNKNOWN);
        Check.due("sue", x.sue(600, 99, 9), 0);
        parts(x, 0, 600, 99, 9, DryLand.NONE, DryLand.NONE);
        Check.due("sue", x.sue(1, 0, 0), 1);
        parts(x, 1, 1, 0, 0, 0, 0);
        Check.due("heard", x.heard(-1, 0), DryLand.UNKNOWN);
        Check.due("heard", x.heard(2, 0), DryLand.UNKNOWN);
        Check.due("heard", x.heard(0, -1), DryLand.OUTSIDE);
        Check.due("heard", x.heard(0, 5), DryLand.OUTSIDE);
        for (int c = 2; c < 30; c++) {
            Check.due("sue " + c, x.sue(1, 0, 0), c);
        }
        Check.due("sue 30", x.sue(1, 0, 0), DryLand.FULL);
        Check.due("sue 30", x.sue(0, 0, 0), DryLand.OUTSIDE);
        Check.due("how many", x.many(9), 30);
        DryLand y = new DryLand();
        for (int c = 0; c < 30; c++) {
            y.sue(20, 7, 0);
        }
        Check.due("all on one day", y.court(1, 600), 30);
        Check.due("all on one day", y.waiting(7), 0);
        Check.due("all on one day", y.heard(29, 3), 7);
    }

    private static void parts(DryLand x, int c, int... want) {
        for (int what = 0; what < want.length; what++) {
            Check.due("heard " + c + " " + what, x.heard(c, what), want[what]);
        }
    }

    private static void order() {
        DryLand x = new DryLand();
        x.sue(100, 5, 3);
        x.sue(100, 4, 3);
        x.sue(100, 4, 3);
        x.sue(100, 5, 4);
        x.sue(250, 5, 9);
        x.sue(50, 5, 0);
        x.court(1, 300);
        // Day 4: 1 and 2. Day 5: 4, and 5 in what is left. Day 6: 3 and 0.
        when(x, 6, 4, 4, 6, 5, 5);
        x.court(1, 100);
        // Day 5 is for the greater rank of 3, though 2 has waited longer.
        when(x, 7, 4, 6, 5, DryLand.NONE, 8);
        x.court(2, 250);
        when(x, 5, 4, 4, 5, 5, 5);
        Check.due("judge", x.heard(4, 4), 0);
        Check.due("judge", x.heard(3, 4), 1);
        Check.due("judge", x.heard(0, 4), 1);
        Check.due("judge", x.heard(5, 4), 1);
        // A later case of a greater rank goes ahead of those that were told before.
        x.sue(200, 5, 5);
        when(x, 6, 4, 4, 6, 5, 5, 5);
        Check.due("judge", x.heard(6, 4), 1);
    }

    private static void when(DryLand x, int... days) {
        for (int c = 0; c < days.length; c++) {
            Check.due("heard " + c, x.heard(c, 3), days[c]);
        }
    }

    private static void waiting() {
        DryLand x = new DryLand();
        Check.due("waiting", x.waiting(-1), DryLand.OUTSIDE);
        Check.due("waiting", x.waiting(100), DryLand.OUTSIDE);
        x.sue(200, 10, 0);
        x.sue(200, 10, 0);
        x.sue(200, 10, 0);
        x.sue(400, 50, 0);
        int[] days = {0, 9, 10, 11, 12, 49, 50, 99};
        int[] want = {0, 0, 2, 1, 0, 0, 1, 1};
        for (int k = 0; k < days.length; k++) {
            Check.due("waiting " + days[k], x.waiting(days[k]), want[k]);
        }
    }

    private static void jurors() {
        DryLand x = new DryLand();
        int[][] outside = {{0, 0}, {0, 21}, {-1, 5}, {6, 5}, {0, -1}};
        for (int[] o : outside) {
            Check.due("juror", x.juror(o[0], o[1]), DryLand.OUTSIDE);
        }
        Check.due("dismiss", x.dismiss(), 0);
        for (int k = 1; k <= 12; k++) {
            Check.due("juror " + k, x.juror(k, 20), k);
        }
        Check.due("juror 13", x.juror(1, 1), DryLand.FULL);
        Check.due("juror 13", x.juror(2, 1), DryLand.OUTSIDE);
        Check.due("how many", x.many(11), 12);
        Check.due("dismiss", x.dismiss(), 12);
        Check.due("dismiss", x.dismiss(), 0);
        Check.due("how many", x.many(11), 0);
        Check.due("jury of none", x.jury(0, 0), DryLand.LOST);
        x.juror(1, 3);
        share(x, 0, 1, 3);
        share(x, 1, 2, 3);
    }

    private static void juries() {
        DryLand x = new DryLand();
        Check.due("jury of none", x.jury(2, 1), DryLand.LOST);
        x.juror(2, 6);
        share(x, 0, 1, 3);
        share(x, 1, 2, 3);
        share(x, 2, 0, 1);
        x.juror(3, 4);
        share(x, 0, 1, 4);
        share(x, 1, 1, 6);
        share(x, 2, 7, 12);
        x.juror(0, 20);
        share(x, 0, 0, 1);
        share(x, 1, 1, 6);
        share(x, 2, 5, 6);
        x.juror(20, 20);
        share(x, 1, 0, 1);
        share(x, 2, 1, 1);
        int[][] outside = {{-1, 0}, {3, 0}, {0, -1}, {0, 2}};
        for (int[] o : outside) {
            Check.due("jury", x.jury(o[0], o[1]), DryLand.LOST);
        }
        large();
    }

    private static void large() {
        DryLand x = new DryLand();
        long p = 1;
        long f = 1;
        long q = 1;
        for (int k = 0; k < 12; k++) {
            x.juror(7, 20);
            p *= 7;
            f *= 13;
            q *= 20;
        }
        share(x, 0, p, q);
        share(x, 1, f, q);
        // q - p - f is a multiple of 2 alone: both are odd, and so the sum is even.
        long upper = q - p - f;
        long lower = q;
        while (upper % 2 == 0 && lower % 2 == 0) {
            upper /= 2;
            lower /= 2;
        }
        while (upper % 5 == 0 && lower % 5 == 0) {
            upper /= 5;
            lower /= 5;
        }
        share(x, 2, upper, lower);
    }

    private static void share(DryLand x, int what, long upper, long lower) {
        Check.due("jury " + what + " upper", x.jury(what, 0), upper);
        Check.due("jury " + what + " lower", x.jury(what, 1), lower);
    }
}
