/** Promises 40 to 44: the sea, towns. */
public final class SeaTownsTest {
    public static void main(String[] args) {
        miles();
        chase();
        chaseOutside();
        towns();
        weeks();
        Check.end();
    }

    private static void miles() {
        DryLand x = new DryLand();
        Check.due("miles", x.miles(0), DryLand.OUTSIDE);
        Check.due("miles", x.miles(31), DryLand.OUTSIDE);
        Check.due("miles", x.miles(30), 3);
        Check.due("miles", x.miles(1), 30);
        Check.due("miles", x.miles(1), 1);
    }

    private static void chase() {
        DryLand x = new DryLand();
        Check.due("at once", x.chase(2, 5, 0, 0, 2, 5, 1), 0);
        Check.due("beyond the miles", x.chase(3, 5, 0, 0, 3, 5, 5), DryLand.NONE);
        Check.due("waits at the coast", x.chase(0, 30, 0, 0, 0, 0, 5), 6);
        Check.due("comes nearer", x.chase(10, 5, -1, 0, 0, 5, 1), 8);
        Check.due("along x", x.chase(0, 0, 0, 0, 7, 3, 2), 4);
        Check.due("along y", x.chase(0, 0, 0, 0, 3, 7, 2), 4);
        Check.due("goes off", x.chase(2, 5, 1, 0, 0, 5, 1), DryLand.NONE);
        Check.due("goes off at once", x.chase(2, 5, 1, 0, 2, 5, 1), 0);
        Check.due("passes the coast", x.chase(4, 5, -3, 0, 30, 5, 5), DryLand.NONE);
        Check.due("leaves along the coast", x.chase(0, 28, 0, 3, 0, 0, 5), DryLand.NONE);
        Check.due("leaves along the coast", x.chase(0, 2, 0, -3, 0, 30, 5), DryLand.NONE);
        Check.due("the last hour", x.chase(0, 0, 0, 0, 23, 0, 1), 23);
        Check.due("too late", x.chase(0, 0, 0, 0, 24, 0, 1), DryLand.NONE);
        Check.due("the edge of the sea", x.chase(2, 3, -1, -1, 1, 1, 1), 1);
        x.miles(4);
        Check.due("more miles", x.chase(3, 5, 0, 0, 3, 5, 5), 0);
        x.miles(30);
        Check.due("all but the edge", x.chase(30, 5, 0, 0, 30, 5, 5), DryLand.NONE);
        Check.due("all but the edge", x.chase(30, 5, -1, 0, 30, 5, 5), 1);
    }

    private static void chaseOutside() {
        DryLand x = new DryLand();
        int[][] low = {{0, -1}, {1, -1}, {2, -4}, {3, -4}, {4, -1}, {5, -1}, {6, 0}};
        int[][] high = {{0, 31}, {1, 31}, {2, 4}, {3, 4}, {4, 31}, {5, 31}, {6, 6}};
        for (int k = 0; k < 7; k++) {
            chaseWith(x, low[k]);
            chaseWith(x, high[k]);
        }
        Check.due("at the ends", x.chase(30, 30, 3, -3, 30, 30, 5), DryLand.NONE);
        Check.due("at the ends", x.chase(0, 0, -3, 3, 0, 0, 1), 0);
    }

    private static void chaseWith(DryLand x, int[] change) {
        int[] a = {1, 1, 0, 0, 1, 1, 1};
        a[change[0]] = change[1];
        Check.due("chase", x.chase(a[0], a[1], a[2], a[3], a[4], a[5], a[6]), DryLand.OUTSIDE);
    }

    private static void towns() {
        DryLand x = new DryLand();
        int[][] outside = {{-1, 0}, {100, 0}, {0, -1}, {0, 1000}};
        for (int[] o : outside) {
            Check.due("town", x.town(o[0], o[1]), DryLand.OUTSIDE);
        }
        Check.due("ofTown", x.ofTown(0, 9), DryLand.UNKNOWN);
        Check.due("week", x.week(0, 1000), DryLand.UNKNOWN);
        Check.due("town", x.town(99, 999), 0);
        of(x, 0, 99, 999, 10, 0, 0);
        for (int t = 1; t < 6; t++) {
            Check.due("town " + t, x.town(0, 0), t);
        }
        Check.due("town 6", x.town(0, 0), DryLand.FULL);
        Check.due("town 6", x.town(100, 0), DryLand.OUTSIDE);
        Check.due("how many", x.many(10), 6);
        Check.due("ofTown", x.ofTown(-1, 0), DryLand.UNKNOWN);
        Check.due("ofTown", x.ofTown(6, 0), DryLand.UNKNOWN);
        Check.due("ofTown", x.ofTown(0, -1), DryLand.OUTSIDE);
        Check.due("ofTown", x.ofTown(0, 5), DryLand.OUTSIDE);
    }

    private static void of(DryLand x, int t, int... want) {
        for (int what = 0; what < want.length; what++) {
            Check.due("ofTown " + t + " " + what, x.ofTown(t, what), want[what]);
        }
    }

    private static void weeks() {
        DryLand x = new DryLand();
        x.town(22, 15);
        Check.due("week", x.week(-1, 0), DryLand.UNKNOWN);
        Check.due("week", x.week(1, 0), DryLand.UNKNOWN);
        Check.due("week", x.week(0, -1), DryLand.OUTSIDE);
        Check.due("week", x.week(0, 1000), DryLand.OUTSIDE);
        // Want is 22 less 10 by 4, which is 2.
        Check.due("too little", x.week(0, 4), 19);
        of(x, 0, 22, 0, 11, 1, 19);
        Check.due("just enough", x.week(0, 20), 20);
        of(x, 0, 22, 0, 11, 2, 39);
        Check.due("not twice", x.week(0, 39), 20);
        of(x, 0, 22, 19, 11, 3, 59);
        Check.due("twice", x.week(0, 21), 20);
        of(x, 0, 22, 20, 10, 4, 79);
        cheap();
        dear();
        full();
    }

    private static void cheap() {
        DryLand x = new DryLand();
        x.town(1, 0);
        // Want is 0 at least, and no stock is twice no want.
        Check.due("no want", x.week(0, 0), 0);
        of(x, 0, 1, 0, 9, 1, 0);
        for (int w = 0; w < 5; w++) {
            x.week(0, 1);
        }
        of(x, 0, 1, 5, 4, 6, 0);
        Check.due("still none", x.week(0, 0), 0);
        Check.due("at last", x.week(0, 0), 1);
        of(x, 0, 1, 4, 2, 8, 1);
        Check.due("week", x.week(0, 0), 1);
        Check.due("week", x.week(0, 0), 1);
        of(x, 0, 1, 2, 1, 10, 3);
    }

    private static void dear() {
        DryLand x = new DryLand();
        x.town(99, 0);
        for (int w = 0; w < 89; w++) {
            Check.due("nothing to be had", x.week(0, 0), 0);
        }
        of(x, 0, 99, 0, 99, 89, 0);
        x.week(0, 0);
        of(x, 0, 99, 0, 99, 90, 0);
        Check.due("want at the highest price", x.week(0, 80), 75);
    }

    private static void full() {
        DryLand x = new DryLand();
        x.town(0, 999);
        for (int w = 0; w < 9; w++) {
            Check.due("week", x.week(0, 999), 0);
        }
        Check.due("above 9999", x.week(0, 10), DryLand.FULL);
        of(x, 0, 0, 9990, 1, 9, 0);
        Check.due("9999", x.week(0, 9), 0);
        of(x, 0, 0, 9999, 1, 10, 0);
        Check.due("above 9999", x.week(0, 1), DryLand.FULL);
        Check.due("outside", x.week(0, 1000), DryLand.OUTSIDE);
        Check.due("nothing comes", x.week(0, 0), 0);
    }
}
