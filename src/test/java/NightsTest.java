/** Promises 15 to 20: agents, trucks, worlds. */
public final class NightsTest {
    public static void main(String[] args) {
        agents();
        trucks();
        meetings();
        worlds();
        surely();
        Check.end();
    }

    private static int agent(DryLand x, int... places) {
        Check.row(x, 0, 0, places);
        return x.agent(0, 0, 0, places.length);
    }

    private static int truck(DryLand x, int hour, int came, int... places) {
        Check.row(x, 0, 0, places);
        return x.truck(hour, came, 0, 0, 0, places.length);
    }

    private static void agents() {
        DryLand x = new DryLand();
        Check.row(x, 0, 1, 0, 9, 10, -1, 5, 5, 5, 5, 5, 5, 5, 5, 5, 5, 5, 5, 5);
        agentOf(x, 4, 3, -1, -1, DryLand.UNKNOWN, 0);
        agentOf(x, 0, 3, -1, -1, DryLand.OUTSIDE, 0);
        agentOf(x, 0, -1, 0, 1, DryLand.OUTSIDE, 0);
        agentOf(x, 0, 0, -1, -1, -12, 2);
        agentOf(x, 1, 0, -1, -1, -11, 1);
        agentOf(x, 0, 1, 99, -1, -14, 4);
        agentOf(x, 0, 1, -1, 1, -13, 3);
        agentOf(x, 0, 1, 16, 2, -13, 3);
        agentOf(x, 0, 1, 0, 0, DryLand.OUTSIDE, 0);
        agentOf(x, 0, 1, 17, 0, DryLand.OUTSIDE, 0);
        agentOf(x, 0, 1, 18, 0, -13, 3);
        agentOf(x, 0, 1, 4, 13, DryLand.OUTSIDE, 0);
        agentOf(x, 0, 1, 1, 2, DryLand.OUTSIDE, 0);
        agentOf(x, 0, 1, 3, 2, DryLand.OUTSIDE, 0);
        agentOf(x, 0, 1, 4, 12, 0, 0);
        for (int a = 1; a < 8; a++) {
            agentOf(x, 0, 1, 0, 2, a, 0);
        }
        agentOf(x, 0, 1, 0, 2, DryLand.FULL, 0);
        agentOf(x, 0, 1, 0, 3, DryLand.OUTSIDE, 0);
        Check.due("how many", x.many(3), 8);
        Check.due("worlds", x.worlds(), 256);
    }

    private static void agentOf(DryLand x, int sheet, int lane, int i, int n, int want, int fault) {
        Check.due("agent " + sheet + " " + lane + " " + i + " " + n, x.agent(sheet, lane, i, n), want);
        Check.due("fault", x.fault(), fault);
    }

    private static void trucks() {
        DryLand x = new DryLand();
        Check.row(x, 0, 2, 0, 9, 10, -1, 5, 5, 5, 5, 5, 5, 5, 5, 5, 5, 5, 5, 5);
        truckOf(x, 12, 2, -1, 3, DryLand.UNKNOWN, 0);
        truckOf(x, 0, 0, 0, 3, DryLand.OUTSIDE, 0);
        truckOf(x, -1, 0, 0, 1, DryLand.OUTSIDE, 0);
        truckOf(x, 12, 0, 1, 2, DryLand.OUTSIDE, 0);
        truckOf(x, 0, -2, 0, 1, DryLand.OUTSIDE, 0);
        truckOf(x, 0, 2, 0, 1, DryLand.OUTSIDE, 0);
        truckOf(x, 0, 0, 0, 1, -12, 2);
        truckOf(x, 0, 0, 1, 1, -11, 1);
        Check.due("truck size", x.truck(0, 0, 0, 2, 99, -1), -14);
        Check.due("truck index", x.truck(0, 0, 0, 2, 10, 8), -13);
        Check.due("fault", x.fault(), 3);
        Check.due("truck n", x.truck(0, 0, 0, 2, 0, 0), DryLand.OUTSIDE);
        Check.due("truck n", x.truck(0, 0, 0, 2, 4, 13), DryLand.OUTSIDE);
        Check.due("truck place", x.truck(0, 0, 0, 2, 1, 2), DryLand.OUTSIDE);
        Check.due("truck place", x.truck(0, 0, 0, 2, 3, 2), DryLand.OUTSIDE);
        Check.due("fault", x.fault(), 0);
        for (int t = 0; t < 12; t++) {
            Check.due("truck " + t, x.truck(11, -1, 0, 2, 4, 12), t);
        }
        Check.due("truck 12", x.truck(11, -1, 0, 2, 4, 12), DryLand.FULL);
        Check.due("truck 12", x.truck(11, -1, 0, 2, 3, 12), DryLand.OUTSIDE);
        Check.due("how many", x.many(4), 12);
        Check.due("an agent behind all trucks", x.agent(0, 2, 4, 1), 0);
        Check.due("the last truck meets it", x.meets(11), 1);
        told(x);
    }

    private static void told(DryLand x) {
        Check.due("came", x.came(12, 9), DryLand.UNKNOWN);
        Check.due("came", x.came(-1, 0), DryLand.UNKNOWN);
        Check.due("came", x.came(0, 2), DryLand.OUTSIDE);
        Check.due("came", x.came(0, -2), DryLand.OUTSIDE);
        Check.due("came", x.came(0, -1), DryLand.NONE);
        Check.due("came", x.came(0, 1), DryLand.NONE);
        Check.due("came", x.came(0, 0), 1);
        Check.due("came", x.came(0, -1), 0);
        Check.due("came", x.came(0, -1), DryLand.NONE);
    }

    private static void truckOf(DryLand x, int hour, int came, int sheet, int lane, int want, int fault) {
        Check.due("truck " + hour + " " + came, x.truck(hour, came, sheet, lane, 4, 1), want);
        Check.due("fault", x.fault(), fault);
    }

    private static void meetings() {
        DryLand x = new DryLand();
        Check.due("no truck", x.meets(0), DryLand.UNKNOWN);
        Check.due("truck", truck(x, 2, -1, 1, 2, 3), 0);
        Check.due("no agents", x.meets(0), 0);
        // At hours 2, 3, 4 the truck is at 1, 2, 3; it is nowhere at 1 and at 5.
        agent(x, 9, 9, 9, 9, 3, 9);
        agent(x, 1, 1, 9, 9, 9, 3);
        agent(x, 9, 9, 2, 1, 9);
        agent(x, 9, 9, 9, 3, 2, 9);
        agent(x, 9, 9, 3, 9, 9, 9);
        agent(x, 9, 1);
        agent(x, 9, 2);
        agent(x, 9, 9, 2, 9, 1, 9);
        Check.due("meets", x.meets(0), 1 + 4 + 8 + 64);
        Check.due("later truck", truck(x, 2, -1, 1, 2, 3), 1);
        Check.due("later truck meets", x.meets(1), 1 + 4 + 8 + 64);
        Check.due("of one place", truck(x, 11, -1, 2), 2);
        // Hour 11 by the rounds' lengths: 5, 5, 1, 5, 5, 1, 1, 5.
        Check.due("of one place", x.meets(2), 64);
        Check.due("late", truck(x, 11, -1, 0, 0, 0, 0, 0, 0, 0, 0, 0, 0, 0, 3), 3);
        // At hour 22: 4 is the rest by 6, 2 by 5, 0 by 2.
        Check.due("late", x.meets(3), 1);
        Check.due("meets", x.meets(-1), DryLand.UNKNOWN);
        Check.due("meets", x.meets(4), DryLand.UNKNOWN);
    }

    private static void worlds() {
        DryLand x = new DryLand();
        agent(x, 0);
        agent(x, 1);
        agent(x, 2);
        Check.due("worlds", x.worlds(), 8);
        truck(x, 0, 1, 0);
        Check.due("one is bribed", x.worlds(), 4);
        truck(x, 0, 0, 0, 1, 2);
        Check.due("not all", x.worlds(), 3);
        truck(x, 0, 0, 1);
        Check.due("one is not", x.worlds(), 2);
        truck(x, 0, 0, 9);
        Check.due("stopped by none", x.worlds(), 0);
        x.came(3, 1);
        Check.due("nobody to bribe", x.worlds(), 2);
        x.came(3, -1);
        Check.due("not known", x.worlds(), 2);
        x.came(2, 1);
        Check.due("two are", x.worlds(), 1);
        Check.due("a set it is not in", x.sure(0, 2), 0);
    }

    private static void surely() {
        DryLand x = new DryLand();
        Check.due("sure", x.sure(2, 0), DryLand.OUTSIDE);
        Check.due("sure", x.sure(-1, 99), DryLand.OUTSIDE);
        Check.due("sure", x.sure(0, 0), DryLand.UNKNOWN);
        Check.due("sure", x.sure(1, 0), DryLand.UNKNOWN);
        agent(x, 0);
        agent(x, 1);
        agent(x, 2);
        truck(x, 0, 1, 0);
        truck(x, 0, 0, 1);
        truck(x, 0, -1, 0, 2);
        truck(x, 0, -1, 1, 2);
        truck(x, 0, -1, 9);
        sures(x, 0, 2, 0, 1);
        sures(x, 1, 2, 0, 1, 0, 2);
        Check.due("sure", x.sure(0, -1), DryLand.UNKNOWN);
        Check.due("sure", x.sure(1, -1), DryLand.UNKNOWN);
        x.came(4, 0);
        sures(x, 0, DryLand.NONE, DryLand.NONE, DryLand.NONE);
        sures(x, 1, DryLand.NONE, DryLand.NONE, DryLand.NONE, DryLand.NONE, DryLand.NONE);
    }

    private static void sures(DryLand x, int who, int... want) {
        for (int n = 0; n < want.length; n++) {
            Check.due("sure " + who + " " + n, x.sure(who, n), want[n]);
        }
        Check.due("sure behind the last", x.sure(who, want.length), DryLand.UNKNOWN);
    }
}
