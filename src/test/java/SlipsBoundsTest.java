/** Promises 11 to 14, sentence by sentence: the bounds that the document names. */
public final class SlipsBoundsTest {
    public static void main(String[] args) {
        hours();
        sixEver();
        slipRefused();
        slipBounds();
        fortyEver();
        aheadOfThem();
        fourAnHour();
        fourAnHourOfMany();
        whichDay();
        ofWhichDoctor();
        Check.covers(11, 14);
        Check.end();
    }

    private static void hours() {
        Check.says(11, "HOURS (1 .. 24)");
        DryLand x = new DryLand();
        for (int hours : new int[] {0, 25, -1, Integer.MIN_VALUE, Integer.MAX_VALUE}) {
            Check.due("doctor " + hours, x.doctor(hours), DryLand.OUTSIDE);
        }
        Check.due("doctor 1", x.doctor(1), 0);
        Check.due("doctor 24", x.doctor(24), 1);
    }

    private static void sixEver() {
        Check.says(11, "6 ever // OUTSIDE; FULL");
        DryLand x = new DryLand();
        for (int d = 0; d < 6; d++) {
            Check.due("doctor " + d, x.doctor(1), d);
        }
        Check.due("doctor 6", x.doctor(1), DryLand.FULL);
        Check.due("doctor 6", x.doctor(0), DryLand.OUTSIDE);
        Check.due("doctor 6", x.doctor(25), DryLand.OUTSIDE);
        Check.due("the last one", x.tooMany(5, -1), 0);
        Check.due("behind it", x.tooMany(6, -1), DryLand.UNKNOWN);
    }

    private static void slipRefused() {
        Check.says(12, "UNKNOWN; OUTSIDE: number, day; FULL");
        DryLand x = new DryLand();
        Check.due("no doctor yet", x.slip(0, 0, 0), DryLand.UNKNOWN);
        x.doctor(1);
        x.doctor(1);
        for (int d : new int[] {-1, 2, Integer.MIN_VALUE, Integer.MAX_VALUE}) {
            Check.due("doctor " + d, x.slip(d, 0, 0), DryLand.UNKNOWN);
            Check.due("doctor " + d, x.slip(d, 1000, 100), DryLand.UNKNOWN);
        }
        for (int number : new int[] {-1, 1000, Integer.MIN_VALUE, Integer.MAX_VALUE}) {
            Check.due("number " + number, x.slip(1, number, 0), DryLand.OUTSIDE);
        }
        for (int day : new int[] {-1, 100, Integer.MIN_VALUE, Integer.MAX_VALUE}) {
            Check.due("day " + day, x.slip(1, 0, day), DryLand.OUTSIDE);
        }
        Check.due("many", x.many(2), 0);
    }

    private static void slipBounds() {
        Check.says(12, "a number (0 .. 999), a DOCTOR, a DAY");
        DryLand x = new DryLand();
        x.doctor(1);
        x.doctor(1);
        Check.due("number 0", x.slip(0, 0, 50), 0);
        Check.due("number 999", x.slip(0, 999, 50), 1);
        Check.due("day 0", x.slip(0, 1, 0), 2);
        Check.due("day 99", x.slip(0, 2, 99), 3);
        Check.due("the last doctor", x.slip(1, 3, 50), 4);
        Check.due("many", x.many(2), 5);
    }

    private static void fortyEver() {
        Check.says(12, "40 ever");
        DryLand x = new DryLand();
        x.doctor(9);
        x.doctor(9);
        for (int s = 0; s < 40; s++) {
            Check.due("slip " + s, x.slip(0, s, s < 36 ? 7 : 8), s);
        }
        Check.due("slip 40", x.slip(0, 0, 7), DryLand.FULL);
        Check.due("of another doctor", x.slip(1, 0, 7), DryLand.FULL);
        Check.due("of none", x.slip(2, 0, 7), DryLand.UNKNOWN);
        Check.due("of no number", x.slip(0, 1000, 7), DryLand.OUTSIDE);
        Check.due("of no day", x.slip(0, 0, 100), DryLand.OUTSIDE);
        Check.due("many", x.many(2), 40);
        Check.due("twice", x.twice(), 0);
        Check.due("tooMany", x.tooMany(0, -1), 0);
    }

    private static void aheadOfThem() {
        Check.says(13, "how many SLIPS have the number of a SLIP ahead of them");
        DryLand x = new DryLand();
        Check.due("no slips", x.twice(), 0);
        x.doctor(1);
        x.doctor(1);
        int[] numbers = {0, 999, 0, 0, 1, 999, 998};
        int[] want = {0, 0, 1, 2, 2, 3, 3};
        for (int s = 0; s < numbers.length; s++) {
            x.slip(s % 2, numbers[s], s);
            Check.due("twice of " + (s + 1), x.twice(), want[s]);
        }
        DryLand all = new DryLand();
        all.doctor(1);
        for (int s = 0; s < 40; s++) {
            all.slip(0, 5, 0);
        }
        Check.due("all but the first", all.twice(), 39);
    }

    private static void fourAnHour() {
        Check.says(14, "on which there are more than four SLIPS an HOUR");
        for (int hours = 1; hours <= 9; hours++) {
            DryLand x = new DryLand();
            x.doctor(hours);
            write(x, 0, 99, 4 * hours - 1);
            Check.due("one below " + hours, x.tooMany(0, -1), 0);
            write(x, 0, 99, 1);
            Check.due("just four of " + hours, x.tooMany(0, -1), 0);
            Check.due("just four of " + hours, x.tooMany(0, 0), DryLand.UNKNOWN);
            write(x, 0, 99, 1);
            Check.due("one above " + hours, x.tooMany(0, -1), 1);
            Check.due("one above " + hours, x.tooMany(0, 0), 99);
        }
    }

    private static void fourAnHourOfMany() {
        Check.says(14, "more than four SLIPS an HOUR");
        for (int hours : new int[] {10, 24}) {
            DryLand x = new DryLand();
            x.doctor(hours);
            write(x, 0, 0, 40);
            Check.due("all slips of " + hours, x.tooMany(0, -1), 0);
        }
    }

    private static void whichDay() {
        Check.says(14, "how many DAYS (i -1), the i-th one. UNKNOWN");
        DryLand x = new DryLand();
        x.doctor(1);
        Check.due("none, i -1", x.tooMany(0, -1), 0);
        Check.due("none, i 0", x.tooMany(0, 0), DryLand.UNKNOWN);
        int[] days = {99, 0, 50, 1};
        for (int day : days) {
            write(x, 0, day, 5);
        }
        write(x, 0, 98, 4);
        int[] want = {DryLand.UNKNOWN, 4, 0, 1, 50, 99, DryLand.UNKNOWN, DryLand.UNKNOWN};
        for (int i = -2; i <= 5; i++) {
            Check.due("i " + i, x.tooMany(0, i), want[i + 2]);
        }
        Check.due("far", x.tooMany(0, Integer.MIN_VALUE), DryLand.UNKNOWN);
        Check.due("far", x.tooMany(0, Integer.MAX_VALUE), DryLand.UNKNOWN);
    }

    private static void ofWhichDoctor() {
        Check.says(14, "DAYS of a DOCTOR");
        DryLand x = new DryLand();
        Check.due("none yet", x.tooMany(0, -1), DryLand.UNKNOWN);
        x.doctor(1);
        x.doctor(2);
        write(x, 0, 7, 4);
        write(x, 1, 7, 8);
        Check.due("each by itself", x.tooMany(0, -1), 0);
        Check.due("each by itself", x.tooMany(1, -1), 0);
        write(x, 1, 7, 1);
        Check.due("the other", x.tooMany(0, -1), 0);
        Check.due("the one", x.tooMany(1, -1), 1);
        Check.due("the one", x.tooMany(1, 0), 7);
        for (int d : new int[] {-1, 2, Integer.MIN_VALUE, Integer.MAX_VALUE}) {
            Check.due("doctor " + d, x.tooMany(d, -1), DryLand.UNKNOWN);
            Check.due("doctor " + d, x.tooMany(d, 0), DryLand.UNKNOWN);
        }
    }

    private static void write(DryLand x, int doctor, int day, int times) {
        for (int k = 0; k < times; k++) {
            x.slip(doctor, k, day);
        }
    }
}
