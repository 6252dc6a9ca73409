/** Promises 11 to 14: doctors and slips. */
public final class SlipsTest {
    public static void main(String[] args) {
        doctors();
        slips();
        tooMany();
        Check.end();
    }

    private static void doctors() {
        DryLand x = new DryLand();
        Check.due("doctor", x.doctor(0), DryLand.OUTSIDE);
        Check.due("doctor", x.doctor(25), DryLand.OUTSIDE);
        for (int d = 0; d < 6; d++) {
            Check.due("doctor " + d, x.doctor(d == 0 ? 24 : d), d);
        }
        Check.due("doctor 6", x.doctor(1), DryLand.FULL);
        Check.due("doctor 6", x.doctor(0), DryLand.OUTSIDE);
    }

    private static void slips() {
        DryLand x = new DryLand();
        Check.due("slip", x.slip(0, 1000, 100), DryLand.UNKNOWN);
        x.doctor(1);
        x.doctor(2);
        Check.due("slip", x.slip(-1, 0, 0), DryLand.UNKNOWN);
        Check.due("slip", x.slip(2, 0, 0), DryLand.UNKNOWN);
        Check.due("slip", x.slip(0, -1, 0), DryLand.OUTSIDE);
        Check.due("slip", x.slip(0, 1000, 0), DryLand.OUTSIDE);
        Check.due("slip", x.slip(0, 0, -1), DryLand.OUTSIDE);
        Check.due("slip", x.slip(0, 0, 100), DryLand.OUTSIDE);
        int[] numbers = {7, 999, 7, 0, 7, 999};
        int[] twice = {0, 0, 1, 1, 2, 3};
        for (int s = 0; s < numbers.length; s++) {
            Check.due("slip " + s, x.slip(s % 2, numbers[s], 99 - s), s);
            Check.due("twice", x.twice(), twice[s]);
        }
        for (int s = 6; s < 40; s++) {
            Check.due("slip " + s, x.slip(0, 100 + s, 0), s);
        }
        Check.due("slip 40", x.slip(0, 7, 0), DryLand.FULL);
        Check.due("slip 40", x.slip(0, 7, 100), DryLand.OUTSIDE);
        Check.due("twice", x.twice(), 3);
        Check.due("how many", x.many(2), 40);
        Check.due("all but three on day 0", x.tooMany(0, -1), 1);
        Check.due("the other doctor", x.tooMany(1, -1), 0);
    }

    private static void tooMany() {
        DryLand x = new DryLand();
        Check.due("of none", x.tooMany(0, -1), DryLand.UNKNOWN);
        x.doctor(1);
        x.doctor(2);
        Check.due("none yet", x.tooMany(0, -1), 0);
        Check.due("none yet", x.tooMany(0, 0), DryLand.UNKNOWN);
        write(x, 0, 99, 4);
        Check.due("four an hour", x.tooMany(0, -1), 0);
        write(x, 0, 99, 1);
        write(x, 0, 0, 5);
        write(x, 0, 50, 6);
        write(x, 1, 50, 8);
        Check.due("days", x.tooMany(0, -1), 3);
        Check.due("first", x.tooMany(0, 0), 0);
        Check.due("second", x.tooMany(0, 1), 50);
        Check.due("third", x.tooMany(0, 2), 99);
        Check.due("fourth", x.tooMany(0, 3), DryLand.UNKNOWN);
        Check.due("i", x.tooMany(0, -2), DryLand.UNKNOWN);
        Check.due("doctor", x.tooMany(-1, -1), DryLand.UNKNOWN);
        Check.due("doctor", x.tooMany(2, -1), DryLand.UNKNOWN);
        Check.due("other doctor", x.tooMany(1, -1), 0);
        write(x, 1, 50, 1);
        Check.due("other doctor", x.tooMany(1, 0), 50);
        Check.due("other doctor", x.tooMany(1, -1), 1);
    }

    private static void write(DryLand x, int doctor, int day, int times) {
        for (int k = 0; k < times; k++) {
            x.slip(doctor, k, day);
        }
    }
}
