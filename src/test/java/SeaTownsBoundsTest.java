/** Promises 40 to 44, sentence by sentence: the bounds that the document names. */
public final class SeaTownsBoundsTest {
    public static void main(String[] args) {
        milesBounds();
        chaseRefused();
        chaseEnds();
        nearerThanMiles();
        boatCanBeThere();
        leastHour();
        lastHour();
        leavesTheSea();
        never();
        townRefused();
        townBounds();
        sixEver();
        weekRefused();
        whatComes();
        stockOf9999();
        wantAtLeast0();
        priceByFour();
        lesserIsDrunk();
        priceGoesUp();
        priceGoesDown();
        priceAtLeast1();
        priceAtMost99();
        ofTownRefused();
        countsOfATown();
        Check.covers(40, 44);
        Check.end();
    }

    private static void milesBounds() {
        Check.says(40, "MILES (1 .. 30; 3 at first)");
        DryLand x = new DryLand();
        for (int m : new int[] {0, 31, -1, Integer.MIN_VALUE, Integer.MAX_VALUE}) {
            Check.due("miles " + m, x.miles(m), DryLand.OUTSIDE);
        }
        Check.due("miles 1", x.miles(1), 3);
        Check.due("miles 30", x.miles(30), 1);
        Check.due("miles 0", x.miles(0), DryLand.OUTSIDE);
        Check.due("miles 31", x.miles(31), DryLand.OUTSIDE);
        Check.due("miles 30", x.miles(30), 30);
    }

    private static void chaseRefused() {
        Check.says(41, "OUTSIDE");
        DryLand x = new DryLand();
        int[] least = {0, 0, -3, -3, 0, 0, 1};
        int[] most = {30, 30, 3, 3, 30, 30, 5};
        for (int k = 0; k < 7; k++) {
            for (int value : new int[] {least[k] - 1, most[k] + 1, Integer.MIN_VALUE, Integer.MAX_VALUE}) {
                Check.due("value " + value + " at " + k, chaseWith(x, k, value), DryLand.OUTSIDE);
            }
            Check.holds("value " + least[k] + " at " + k, chaseWith(x, k, least[k]) != DryLand.OUTSIDE);
            Check.holds("value " + most[k] + " at " + k, chaseWith(x, k, most[k]) != DryLand.OUTSIDE);
        }
    }

    private static int chaseWith(DryLand x, int which, int value) {
        int[] a = {1, 1, 0, 0, 1, 1, 1};
        a[which] = value;
        return x.chase(a[0], a[1], a[2], a[3], a[4], a[5], a[6]);
    }

    private static void chaseEnds() {
        Check.says(41, "x miles from the coast (0 .. 30), y along it (0 .. 30)");
        DryLand x = new DryLand();
        Check.due("0, 0", x.chase(0, 0, 0, 0, 0, 0, 1), 0);
        Check.due("0, 30", x.chase(0, 30, 0, 0, 0, 30, 1), 0);
        x.miles(30);
        Check.due("29, 30", x.chase(29, 30, 0, 0, 29, 30, 1), 0);
        Check.due("29, 0", x.chase(29, 0, 0, 0, 29, 0, 1), 0);
    }

    private static void nearerThanMiles() {
        Check.says(41, "nearer than MILES");
        for (int m : new int[] {1, 3, 30}) {
            DryLand x = new DryLand();
            x.miles(m);
            Check.due("one below " + m, x.chase(m - 1, 5, 0, 0, m - 1, 5, 1), 0);
            Check.due("just " + m, x.chase(m, 5, 0, 0, m, 5, 1), DryLand.NONE);
            Check.due("comes in", x.chase(m, 5, -1, 0, m, 5, 1), 1);
        }
    }

    private static void boatCanBeThere() {
        Check.says(41, "a boat by v (1 .. 5) at most along x, along y each");
        DryLand x = new DryLand();
        for (int v = 1; v <= 5; v++) {
            Check.due("along x " + v, x.chase(0, 10, 0, 0, 2 * v, 10, v), 2);
            Check.due("one more along x " + v, x.chase(0, 10, 0, 0, 2 * v + 1, 10, v), 3);
            Check.due("along y " + v, x.chase(0, 0, 0, 0, 0, 2 * v, v), 2);
            Check.due("one more along y " + v, x.chase(0, 0, 0, 0, 0, 2 * v + 1, v), 3);
            Check.due("back along y " + v, x.chase(0, 30, 0, 0, 0, 30 - 2 * v, v), 2);
            Check.due("along both " + v, x.chase(0, 0, 0, 0, 2 * v, 2 * v, v), 2);
            Check.due("one more along both " + v, x.chase(0, 0, 0, 0, 2 * v + 1, 2 * v, v), 3);
        }
        Check.due("out along x", x.chase(2, 5, 0, 0, 0, 5, 1), 2);
    }

    private static void leastHour() {
        Check.says(41, "the least hour (0 .. 23) at which the ship is at a place of THE SEA");
        DryLand x = new DryLand();
        Check.due("at once", x.chase(1, 5, 0, 1, 1, 5, 5), 0);
        Check.due("next hour", x.chase(1, 5, 0, 1, 1, 7, 1), 1);
        Check.due("it comes", x.chase(9, 5, -3, 0, 0, 5, 5), 3);
        Check.due("it comes by 3, 0 is a place", x.chase(3, 5, -3, 0, 0, 5, 5), 1);
        Check.due("it goes as fast as the boat", x.chase(0, 5, 0, 1, 0, 4, 1), DryLand.NONE);
        Check.due("it goes slower", x.chase(0, 5, 0, 1, 0, 4, 2), 1);
    }

    private static void lastHour() {
        Check.says(41, "hour (0 .. 23)");
        DryLand x = new DryLand();
        Check.due("hour 22", x.chase(0, 5, 0, 0, 22, 5, 1), 22);
        Check.due("hour 23", x.chase(0, 5, 0, 0, 23, 5, 1), 23);
        Check.due("hour 24", x.chase(0, 5, 0, 0, 24, 5, 1), DryLand.NONE);
        Check.due("it comes at 23", x.chase(25, 5, -1, 0, 0, 5, 5), 23);
        Check.due("it would at 24", x.chase(26, 5, -1, 0, 0, 5, 5), DryLand.NONE);
    }

    private static void leavesTheSea() {
        Check.says(41, "at a place of THE SEA");
        DryLand x = new DryLand();
        Check.due("past the coast", x.chase(2, 5, -3, 0, 4, 5, 1), DryLand.NONE);
        Check.due("over the miles to the land", x.chase(5, 5, -3, 0, 9, 5, 1), DryLand.NONE);
        Check.due("y 30 is of it", x.chase(0, 29, 0, 1, 1, 30, 1), 1);
        Check.due("y 31 is not", x.chase(0, 30, 0, 1, 2, 30, 1), DryLand.NONE);
        Check.due("y 0 is of it", x.chase(0, 1, 0, -1, 1, 0, 1), 1);
        Check.due("y -1 is not", x.chase(0, 0, 0, -1, 2, 0, 1), DryLand.NONE);
        Check.due("x 0 is of it", x.chase(1, 5, -1, 0, 0, 6, 1), 1);
        Check.due("x -1 is not", x.chase(0, 5, -1, 0, 0, 6, 1), DryLand.NONE);
        x.miles(30);
        Check.due("x 31 is not", x.chase(30, 5, 1, 0, 30, 6, 1), DryLand.NONE);
    }

    private static void never() {
        Check.says(41, "NONE");
        DryLand x = new DryLand();
        Check.due("beyond the miles", x.chase(30, 30, 0, 0, 30, 30, 5), DryLand.NONE);
        Check.due("goes out", x.chase(2, 0, 3, 0, 0, 30, 5), DryLand.NONE);
        Check.due("stays too far", x.chase(0, 0, 0, 0, 30, 30, 1), DryLand.NONE);
    }

    private static void townRefused() {
        Check.says(42, "OUTSIDE; FULL");
        DryLand x = new DryLand();
        for (int habit : new int[] {-1, 100, Integer.MIN_VALUE, Integer.MAX_VALUE}) {
            Check.due("habit " + habit, x.town(habit, 0), DryLand.OUTSIDE);
        }
        for (int stock : new int[] {-1, 1000, Integer.MIN_VALUE, Integer.MAX_VALUE}) {
            Check.due("stock " + stock, x.town(0, stock), DryLand.OUTSIDE);
        }
        Check.due("many", x.many(10), 0);
    }

    private static void townBounds() {
        Check.says(42, "HABIT (0 .. 99), STOCK (0 .. 999), PRICE (1 .. 99; 10 at first)");
        DryLand x = new DryLand();
        int[][] towns = {{0, 5}, {99, 5}, {5, 0}, {5, 999}};
        for (int t = 0; t < towns.length; t++) {
            Check.due("town " + t, x.town(towns[t][0], towns[t][1]), t);
            of(x, t, towns[t][0], towns[t][1], 10, 0, 0);
        }
    }

    private static void sixEver() {
        Check.says(42, "6 ever");
        DryLand x = new DryLand();
        for (int t = 0; t < 6; t++) {
            Check.due("town " + t, x.town(t, t), t);
        }
        Check.due("town 6", x.town(9, 9), DryLand.FULL);
        Check.due("of no habit", x.town(100, 9), DryLand.OUTSIDE);
        Check.due("of no stock", x.town(9, -1), DryLand.OUTSIDE);
        Check.due("many", x.many(10), 6);
        of(x, 0, 0, 0, 10, 0, 0);
        of(x, 5, 5, 5, 10, 0, 0);
        Check.due("behind it", x.ofTown(6, 0), DryLand.UNKNOWN);
    }

    private static void of(DryLand x, int t, int... want) {
        for (int what = 0; what < want.length; what++) {
            Check.due("ofTown " + t + " " + what, x.ofTown(t, what), want[what]);
        }
    }

    private static void weekRefused() {
        Check.says(43, "UNKNOWN; OUTSIDE: comes is not 0 .. 999; FULL: STOCK would be above 9999");
        DryLand x = new DryLand();
        Check.due("no town yet", x.week(0, 0), DryLand.UNKNOWN);
        x.town(50, 100);
        for (int t : new int[] {-1, 1, Integer.MIN_VALUE, Integer.MAX_VALUE}) {
            Check.due("town " + t, x.week(t, 0), DryLand.UNKNOWN);
            Check.due("town " + t, x.week(t, 1000), DryLand.UNKNOWN);
        }
        for (int comes : new int[] {-1, 1000, Integer.MIN_VALUE, Integer.MAX_VALUE}) {
            Check.due("comes " + comes, x.week(0, comes), DryLand.OUTSIDE);
        }
        of(x, 0, 50, 100, 10, 0, 0);
    }

    private static void whatComes() {
        Check.says(43, "what comes is put to STOCK");
        DryLand x = new DryLand();
        x.town(0, 0);
        Check.due("comes 0", x.week(0, 0), 0);
        of(x, 0, 0, 0, 9, 1, 0);
        Check.due("comes 999", x.week(0, 999), 0);
        of(x, 0, 0, 999, 8, 2, 0);
        x.town(99, 0);
        // What comes is drunk the same week: want is 99 less 2.
        Check.due("drunk at once", x.week(1, 97), 97);
        of(x, 1, 99, 0, 10, 1, 97);
    }

    private static void stockOf9999() {
        Check.says(43, "FULL: STOCK would be above 9999");
        DryLand x = new DryLand();
        x.town(0, 999);
        for (int w = 0; w < 9; w++) {
            x.week(0, 999);
        }
        of(x, 0, 0, 9990, 1, 9, 0);
        Check.due("10000", x.week(0, 10), DryLand.FULL);
        Check.due("10989", x.week(0, 999), DryLand.FULL);
        Check.due("comes is looked at first", x.week(0, 1000), DryLand.OUTSIDE);
        of(x, 0, 0, 9990, 1, 9, 0);
        Check.due("9999", x.week(0, 9), 0);
        of(x, 0, 0, 9999, 1, 10, 0);
        Check.due("one more", x.week(0, 1), DryLand.FULL);
        Check.due("nothing more", x.week(0, 0), 0);
        of(x, 0, 0, 9999, 1, 11, 0);
        DryLand y = new DryLand();
        y.town(99, 999);
        for (int w = 0; w < 9; w++) {
            y.week(0, 999);
        }
        // 881 of 9990 were drunk: 9109 are left.
        Check.due("10000", y.week(0, 891), DryLand.FULL);
        Check.due("9999, before it is drunk", y.week(0, 890), 99);
        of(y, 0, 99, 9900, 1, 10, 980);
    }

    private static void wantAtLeast0() {
        Check.says(43, "WANT is HABIT less PRICE by 4 (0 at least)");
        int[] want = {0, 0, 0, 1, 2};
        for (int habit = 0; habit <= 4; habit++) {
            DryLand x = new DryLand();
            x.town(habit, 999);
            Check.due("habit " + habit, x.week(0, 0), want[habit]);
            of(x, 0, habit, 999 - want[habit], 9, 1, want[habit]);
        }
    }

    private static void priceByFour() {
        Check.says(43, "Quotients are cut");
        DryLand x = new DryLand();
        x.town(99, 999);
        // The price goes down from 10 by one a week: 10, 9, 8 by 4 are 2, 7 to 4 are 1, 3 to 1 are 0.
        int[] want = {97, 97, 97, 98, 98, 98, 98, 99, 99, 99, 99};
        for (int w = 0; w < want.length; w++) {
            Check.due("price " + x.ofTown(0, 2), x.week(0, 100), want[w]);
        }
    }

    private static void lesserIsDrunk() {
        Check.says(43, "DRUNK: the lesser of WANT and STOCK, taken off");
        int[] comes = {0, 1, 17, 18, 19, 999};
        int[] drunk = {0, 1, 17, 18, 18, 18};
        for (int k = 0; k < comes.length; k++) {
            DryLand x = new DryLand();
            x.town(20, 0);
            Check.due("stock " + comes[k], x.week(0, comes[k]), drunk[k]);
            Check.due("what is left", x.ofTown(0, 1), comes[k] - drunk[k]);
        }
    }

    private static void priceGoesUp() {
        Check.says(43, "PRICE goes up by one, if WANT was above STOCK");
        int[] comes = {0, 17, 18, 19};
        int[] price = {11, 11, 10, 10};
        for (int k = 0; k < comes.length; k++) {
            DryLand x = new DryLand();
            x.town(20, 0);
            x.week(0, comes[k]);
            Check.due("stock " + comes[k], x.ofTown(0, 2), price[k]);
        }
    }

    private static void priceGoesDown() {
        Check.says(43, "down by one, if STOCK was twice WANT or more");
        int[] comes = {35, 36, 37};
        int[] price = {10, 9, 9};
        for (int k = 0; k < comes.length; k++) {
            DryLand x = new DryLand();
            x.town(20, 0);
            x.week(0, comes[k]);
            Check.due("stock " + comes[k], x.ofTown(0, 2), price[k]);
        }
        DryLand y = new DryLand();
        y.town(0, 0);
        y.week(0, 0);
        Check.due("no stock is twice no want", y.ofTown(0, 2), 9);
    }

    private static void priceAtLeast1() {
        Check.says(43, "(1 .. 99)");
        DryLand x = new DryLand();
        x.town(0, 0);
        for (int w = 1; w <= 12; w++) {
            x.week(0, 0);
            Check.due("week " + w, x.ofTown(0, 2), Math.max(1, 10 - w));
        }
    }

    private static void priceAtMost99() {
        Check.says(43, "PRICE (1 .. 99");
        DryLand x = new DryLand();
        x.town(99, 0);
        for (int w = 1; w <= 91; w++) {
            x.week(0, 0);
            Check.due("week " + w, x.ofTown(0, 2), Math.min(99, 10 + w));
        }
        Check.due("want at 99 is 99 less 24", x.week(0, 76), 75);
        Check.due("it stays", x.ofTown(0, 2), 99);
        x.week(0, 149);
        Check.due("it goes down again", x.ofTown(0, 2), 98);
    }

    private static void ofTownRefused() {
        Check.says(44, "UNKNOWN; OUTSIDE");
        DryLand x = new DryLand();
        Check.due("none yet", x.ofTown(0, 0), DryLand.UNKNOWN);
        x.town(1, 2);
        for (int t : new int[] {-1, 1, Integer.MIN_VALUE, Integer.MAX_VALUE}) {
            Check.due("town " + t, x.ofTown(t, 0), DryLand.UNKNOWN);
            Check.due("town " + t, x.ofTown(t, 5), DryLand.UNKNOWN);
        }
        for (int what : new int[] {-1, 5, Integer.MIN_VALUE, Integer.MAX_VALUE}) {
            Check.due("what " + what, x.ofTown(0, what), DryLand.OUTSIDE);
        }
        of(x, 0, 1, 2, 10, 0, 0);
    }

    private static void countsOfATown() {
        Check.says(44, "3 how many WEEKS, 4 all that was DRUNK");
        DryLand x = new DryLand();
        x.town(99, 0);
        x.town(99, 999);
        int drunk = 0;
        for (int w = 1; w <= 30; w++) {
            drunk += x.week(0, 50);
            Check.due("weeks", x.ofTown(0, 3), w);
            Check.due("all that was drunk", x.ofTown(0, 4), drunk);
        }
        Check.due("50 a week", drunk, 1500);
        of(x, 1, 99, 999, 10, 0, 0);
        x.week(0, 1000);
        Check.due("a refused week is none", x.ofTown(0, 3), 30);
    }
}
