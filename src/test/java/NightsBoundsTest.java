/** Promises 15 to 20, sentence by sentence: the bounds that the document names. */
public final class NightsBoundsTest {
    public static void main(String[] args) {
        agentRefused();
        agentInOrder();
        roundLengths();
        roundPlaces();
        eightEver();
        truckRefused();
        truckInOrder();
        truckHours();
        roadLengths();
        roadPlaces();
        twelveEver();
        toldOfTrucks();
        cameRefused();
        meetsRefused();
        atOneHour();
        roundsComeAgain();
        placesChanged();
        onlyWhileOnTheRoad();
        allHoursOfATruck();
        noTrucks();
        metByNobody();
        cameThroughAndStopped();
        sureRefused();
        sureOfAgents();
        sureOfTrucks();
        sureOfNoWorld();
        Check.covers(15, 20);
        Check.end();
    }

    private static int agent(DryLand x, int... places) {
        Check.row(x, 0, 0, places);
        return x.agent(0, 0, 0, places.length);
    }

    private static int truck(DryLand x, int hour, int came, int... places) {
        Check.row(x, 0, 0, places);
        return x.truck(hour, came, 0, 0, 0, places.length);
    }

    private static void agentRefused() {
        Check.says(15, "UNKNOWN; OUTSIDE: lane");
        DryLand x = new DryLand();
        Check.row(x, 0, 0, 1, 2, 3);
        agentOf(x, -1, 0, 0, 3, DryLand.UNKNOWN, 0);
        agentOf(x, 4, 0, 0, 3, DryLand.UNKNOWN, 0);
        agentOf(x, 0, -1, 0, 3, DryLand.OUTSIDE, 0);
        agentOf(x, 0, 3, 0, 3, DryLand.OUTSIDE, 0);
        Check.due("many", x.many(3), 0);
        agentOf(x, 0, 0, 0, 3, 0, 0);
        for (int lane = 0; lane <= 2; lane++) {
            Check.row(x, 1 + lane, lane, 1, 2, 3);
            agentOf(x, 1 + lane, lane, 0, 3, 1 + lane, 0);
        }
    }

    private static void agentInOrder() {
        Check.says(15, "FAULTS as text(); OUTSIDE: n is not 1 .. 12, a PLACE; FULL");
        DryLand x = new DryLand();
        Check.row(x, 0, 1, 10, -1, 3);
        agentOf(x, 4, 3, -1, -1, DryLand.UNKNOWN, 0);
        agentOf(x, 0, 3, -1, -1, DryLand.OUTSIDE, 0);
        agentOf(x, 0, 0, -1, -1, -12, 2);
        agentOf(x, 0, 2, 0, 1, -12, 2);
        agentOf(x, 1, 0, -1, -1, -11, 1);
        agentOf(x, 1, 2, 0, 0, -11, 1);
        agentOf(x, 0, 1, -1, -1, -14, 4);
        agentOf(x, 0, 1, -1, 0, -13, 3);
        agentOf(x, 0, 1, 4, 0, -13, 3);
        agentOf(x, 0, 1, 3, 0, DryLand.OUTSIDE, 0);
        agentOf(x, 0, 1, 3, 1, -13, 3);
        agentOf(x, 0, 1, 0, 13, -13, 3);
        agentOf(x, 0, 1, 2, Integer.MAX_VALUE, -13, 3);
        agentOf(x, 0, 1, 0, 3, DryLand.OUTSIDE, 0);
        Check.due("many", x.many(3), 0);
        agentOf(x, 0, 1, 2, 1, 0, 0);
    }

    private static void roundLengths() {
        Check.says(15, "a row of 1 .. 12 PLACES");
        DryLand x = new DryLand();
        x.sheet(0, 0, 60);
        agentOf(x, 0, 0, 0, 0, DryLand.OUTSIDE, 0);
        agentOf(x, 0, 0, 60, 0, DryLand.OUTSIDE, 0);
        agentOf(x, 0, 0, 0, 1, 0, 0);
        agentOf(x, 0, 0, 0, 12, 1, 0);
        agentOf(x, 0, 0, 0, 13, DryLand.OUTSIDE, 0);
        agentOf(x, 0, 0, 0, 60, DryLand.OUTSIDE, 0);
        agentOf(x, 0, 0, 48, 12, 2, 0);
        agentOf(x, 0, 0, 49, 12, -13, 3);
        agentOf(x, 0, 0, 48, 13, -13, 3);
        Check.due("many", x.many(3), 3);
    }

    private static void roundPlaces() {
        Check.says(15, "PLACES (0 .. 9)");
        DryLand x = new DryLand();
        Check.due("place 0", agent(x, 0), 0);
        Check.due("place 9", agent(x, 9), 1);
        for (int place : new int[] {-1, 10, 127, -128}) {
            Check.due("first " + place, agent(x, place, 1, 2), DryLand.OUTSIDE);
            Check.due("last " + place, agent(x, 1, 2, place), DryLand.OUTSIDE);
        }
        Check.row(x, 1, 2, 256, 65536, 9);
        agentOf(x, 1, 2, 0, 1, DryLand.OUTSIDE, 0);
        agentOf(x, 1, 2, 1, 1, DryLand.OUTSIDE, 0);
        agentOf(x, 1, 2, 2, 1, 2, 0);
        Check.due("many", x.many(3), 3);
    }

    private static void eightEver() {
        Check.says(15, "8 ever");
        DryLand x = new DryLand();
        Check.row(x, 0, 0, 3, 10);
        for (int a = 0; a < 8; a++) {
            agentOf(x, 0, 0, 0, 1, a, 0);
        }
        agentOf(x, 0, 0, 0, 1, DryLand.FULL, 0);
        agentOf(x, 0, 0, 1, 1, DryLand.OUTSIDE, 0);
        agentOf(x, 0, 0, 0, 0, DryLand.OUTSIDE, 0);
        agentOf(x, 0, 0, 0, 3, -13, 3);
        agentOf(x, 0, 1, 0, 1, -12, 2);
        agentOf(x, 1, 0, 0, 1, -11, 1);
        Check.due("many", x.many(3), 8);
        Check.due("worlds", x.worlds(), 256);
        Check.due("a truck", truck(x, 0, -1, 3), 0);
        Check.due("all meet it", x.meets(0), 255);
        Check.due("the last one", x.sure(0, 7), 1);
    }

    private static void agentOf(DryLand x, int sheet, int lane, int i, int n, int want, int fault) {
        Check.due("agent " + sheet + " " + lane + " " + i + " " + n, x.agent(sheet, lane, i, n), want);
        Check.due("fault", x.fault(), fault);
    }

    private static void truckRefused() {
        Check.says(16, "UNKNOWN; OUTSIDE: lane, hour, came is not -1, 0, 1");
        DryLand x = new DryLand();
        Check.row(x, 0, 0, 1, 2, 3);
        truckOf(x, 0, 0, -1, 0, DryLand.UNKNOWN, 0);
        truckOf(x, 0, 0, 4, 0, DryLand.UNKNOWN, 0);
        truckOf(x, 0, 0, 0, -1, DryLand.OUTSIDE, 0);
        truckOf(x, 0, 0, 0, 3, DryLand.OUTSIDE, 0);
        truckOf(x, -1, 0, 0, 0, DryLand.OUTSIDE, 0);
        truckOf(x, 12, 0, 0, 0, DryLand.OUTSIDE, 0);
        truckOf(x, Integer.MIN_VALUE, 0, 0, 0, DryLand.OUTSIDE, 0);
        truckOf(x, 0, -2, 0, 0, DryLand.OUTSIDE, 0);
        truckOf(x, 0, 2, 0, 0, DryLand.OUTSIDE, 0);
        truckOf(x, 0, Integer.MAX_VALUE, 0, 0, DryLand.OUTSIDE, 0);
        Check.due("many", x.many(4), 0);
        for (int came = -1; came <= 1; came++) {
            truckOf(x, 0, came, 0, 0, came + 1, 0);
            Check.due("what was told", x.came(came + 1, came), came == -1 ? DryLand.NONE : came);
        }
    }

    private static void truckInOrder() {
        Check.says(16, "FAULTS; OUTSIDE: n is not 1 .. 12, a PLACE; FULL");
        DryLand x = new DryLand();
        Check.row(x, 0, 1, 10, -1, 3);
        truckFrom(x, 12, 2, 4, 3, -1, -1, DryLand.UNKNOWN, 0);
        truckFrom(x, 0, 0, 0, 3, -1, -1, DryLand.OUTSIDE, 0);
        truckFrom(x, 12, 0, 0, 0, -1, -1, DryLand.OUTSIDE, 0);
        truckFrom(x, 0, 2, 0, 0, -1, -1, DryLand.OUTSIDE, 0);
        truckFrom(x, 12, 0, 1, 0, -1, -1, DryLand.OUTSIDE, 0);
        truckFrom(x, 0, 0, 0, 0, -1, -1, -12, 2);
        truckFrom(x, 0, 0, 1, 0, -1, -1, -11, 1);
        truckFrom(x, 0, 0, 0, 1, -1, -1, -14, 4);
        truckFrom(x, 0, 0, 0, 1, -1, 0, -13, 3);
        truckFrom(x, 0, 0, 0, 1, 4, 0, -13, 3);
        truckFrom(x, 0, 0, 0, 1, 3, 0, DryLand.OUTSIDE, 0);
        truckFrom(x, 0, 0, 0, 1, 3, 1, -13, 3);
        truckFrom(x, 0, 0, 0, 1, 0, 13, -13, 3);
        truckFrom(x, 0, 0, 0, 1, 0, 3, DryLand.OUTSIDE, 0);
        truckFrom(x, 0, 0, 0, 1, 2, 1, 0, 0);
    }

    private static void truckHours() {
        Check.says(16, "from an hour on (0 .. 11)");
        DryLand x = new DryLand();
        // This agent is at 1 at hours 0 and 12 alone, that one at 1 at hour 11 and 23.
        agent(x, 1, 9, 9, 9, 9, 9, 9, 9, 9, 9, 9, 9);
        agent(x, 9, 9, 9, 9, 9, 9, 9, 9, 9, 9, 9, 1);
        Check.due("hour 0", truck(x, 0, -1, 1), 0);
        Check.due("hour 11", truck(x, 11, -1, 1), 1);
        Check.due("hour -1", truck(x, -1, -1, 1), DryLand.OUTSIDE);
        Check.due("hour 12", truck(x, 12, -1, 1), DryLand.OUTSIDE);
        Check.due("who is there at 0", x.meets(0), 1);
        Check.due("who is there at 11", x.meets(1), 2);
    }

    private static void roadLengths() {
        Check.says(16, "a row of 1 .. 12 PLACES, hour by hour");
        DryLand x = new DryLand();
        x.sheet(0, 0, 60);
        truckFrom(x, 0, 0, 0, 0, 0, 0, DryLand.OUTSIDE, 0);
        truckFrom(x, 0, 0, 0, 0, 0, 1, 0, 0);
        truckFrom(x, 0, 0, 0, 0, 0, 12, 1, 0);
        truckFrom(x, 0, 0, 0, 0, 0, 13, DryLand.OUTSIDE, 0);
        truckFrom(x, 0, 0, 0, 0, 0, 60, DryLand.OUTSIDE, 0);
        truckFrom(x, 0, 0, 0, 0, 48, 12, 2, 0);
        truckFrom(x, 0, 0, 0, 0, 49, 12, -13, 3);
        truckFrom(x, 11, 0, 0, 0, 48, 12, 3, 0);
        Check.due("many", x.many(4), 4);
    }

    private static void roadPlaces() {
        Check.says(16, "a PLACE");
        DryLand x = new DryLand();
        Check.due("place 0", truck(x, 0, 0, 0), 0);
        Check.due("place 9", truck(x, 0, 0, 9), 1);
        for (int place : new int[] {-1, 10}) {
            Check.due("first " + place, truck(x, 0, 0, place, 1, 2), DryLand.OUTSIDE);
            Check.due("last " + place, truck(x, 0, 0, 1, 2, place), DryLand.OUTSIDE);
        }
        Check.due("many", x.many(4), 2);
    }

    private static void twelveEver() {
        Check.says(16, "12 ever");
        DryLand x = new DryLand();
        Check.row(x, 0, 0, 3, 10);
        for (int t = 0; t < 12; t++) {
            truckOf(x, 0, 1, 0, 0, t, 0);
        }
        truckOf(x, 0, 0, 0, 0, DryLand.FULL, 0);
        truckFrom(x, 0, 0, 0, 0, 1, 1, DryLand.OUTSIDE, 0);
        truckFrom(x, 0, 0, 0, 0, 0, 0, DryLand.OUTSIDE, 0);
        truckOf(x, 12, 0, 0, 0, DryLand.OUTSIDE, 0);
        truckFrom(x, 0, 0, 0, 0, 0, 3, -13, 3);
        Check.due("many", x.many(4), 12);
        Check.due("what was told of the last", x.came(11, 1), 1);
        Check.due("behind it", x.came(12, 1), DryLand.UNKNOWN);
        Check.due("an agent", x.agent(0, 0, 0, 1), 0);
        Check.due("the first meets it", x.meets(0), 1);
        Check.due("the last meets it", x.meets(11), 1);
    }

    private static void truckOf(DryLand x, int hour, int came, int sheet, int lane, int want, int fault) {
        Check.due("truck " + hour + " " + came + " " + sheet + " " + lane,
            x.truck(hour, came, sheet, lane, 0, 1), want);
        Check.due("fault", x.fault(), fault);
    }

    private static void truckFrom(DryLand x, int hour, int came, int sheet, int lane, int i, int n, int want,
            int fault) {
        Check.due("truck " + hour + " " + came + " " + sheet + " " + lane + " " + i + " " + n,
            x.truck(hour, came, sheet, lane, i, n), want);
        Check.due("fault", x.fault(), fault);
    }

    private static void toldOfTrucks() {
        Check.says(17, "what was told (not known: NONE)");
        DryLand x = new DryLand();
        truck(x, 0, -1, 1);
        truck(x, 0, 0, 1);
        truck(x, 0, 1, 1);
        int[] was = {DryLand.NONE, 0, 1};
        int[] told = {-1, 0, 1};
        for (int t = 0; t < 3; t++) {
            int before = was[t];
            for (int first : told) {
                for (int is : new int[] {first, first}) {
                    Check.due("truck " + t + " " + is, x.came(t, is), before);
                    before = is == -1 ? DryLand.NONE : is;
                }
            }
        }
    }

    private static void cameRefused() {
        Check.says(17, "UNKNOWN; OUTSIDE");
        DryLand x = new DryLand();
        Check.due("no truck yet", x.came(0, 0), DryLand.UNKNOWN);
        truck(x, 0, 1, 1);
        for (int t : new int[] {-1, 1, Integer.MIN_VALUE, Integer.MAX_VALUE}) {
            Check.due("truck " + t, x.came(t, 0), DryLand.UNKNOWN);
            Check.due("truck " + t, x.came(t, 2), DryLand.UNKNOWN);
        }
        for (int is : new int[] {-2, 2, DryLand.NONE, Integer.MIN_VALUE, Integer.MAX_VALUE}) {
            Check.due("is " + is, x.came(0, is), DryLand.OUTSIDE);
        }
        Check.due("as it was", x.came(0, -1), 1);
    }

    private static void meetsRefused() {
        Check.says(18, "AGENTS that MEET a TRUCK, as a set. UNKNOWN");
        DryLand x = new DryLand();
        Check.due("no truck yet", x.meets(0), DryLand.UNKNOWN);
        truck(x, 0, 0, 1);
        Check.due("no agents", x.meets(0), 0);
        for (int t : new int[] {-1, 1, Integer.MIN_VALUE, Integer.MAX_VALUE}) {
            Check.due("truck " + t, x.meets(t), DryLand.UNKNOWN);
        }
        agent(x, 1);
        agent(x, 2);
        agent(x, 1);
        Check.due("two of three", x.meets(0), 5);
        x.came(0, -1);
        Check.due("whatever is told", x.meets(0), 5);
    }

    private static void atOneHour() {
        Check.says(18, "if both are at one PLACE at one hour");
        DryLand x = new DryLand();
        truck(x, 3, -1, 0, 5, 9);
        agent(x, 7, 7, 7, 0, 7, 7);
        agent(x, 7, 7, 7, 7, 5, 7);
        agent(x, 7, 7, 7, 7, 7, 9);
        agent(x, 7, 7, 0, 7, 7, 7);
        agent(x, 7, 7, 7, 7, 0, 7);
        agent(x, 9, 9, 9, 7, 9, 7);
        agent(x, 5, 5, 5, 7, 7, 5);
        Check.due("who meets it", x.meets(0), 7);
    }

    private static void roundsComeAgain() {
        Check.says(18, "at hour h (0 .. 23) at that of h by how many (the rest)");
        for (int length = 1; length <= 12; length++) {
            DryLand x = new DryLand();
            int[] round = new int[length];
            java.util.Arrays.fill(round, 9);
            round[length - 1] = 4;
            agent(x, round);
            for (int hour = 0; hour <= 11; hour++) {
                Check.due("truck", truck(x, hour, -1, 4), hour);
                boolean isThere = hour % length == length - 1;
                Check.due("round of " + length + " at " + hour, x.meets(hour), isThere ? 1 : 0);
            }
        }
    }

    private static void placesChanged() {
        Check.says(18, "from one hour to the next each goes to where the other was (unlike PLACES)");
        DryLand x = new DryLand();
        truck(x, 4, -1, 1, 2, 3);
        // Each changes places with it: from 4 to 5, from 5 to 6.
        agent(x, 9, 9, 9, 9, 2, 1, 9);
        agent(x, 9, 9, 9, 9, 9, 3, 2);
        // One goes where it was, but comes from elsewhere; one leaves where it comes, but goes elsewhere.
        agent(x, 9, 9, 9, 9, 9, 1, 2);
        agent(x, 9, 9, 9, 9, 2, 9, 9);
        // An hour early, an hour late; and by two hours.
        agent(x, 9, 9, 9, 2, 9, 9, 1, 9);
        agent(x, 9, 9, 9, 9, 9, 9, 2, 3);
        agent(x, 9, 9, 9, 9, 3, 9, 1, 9);
        Check.due("who meets it", x.meets(0), 3);
        DryLand y = new DryLand();
        truck(y, 0, -1, 1, 1);
        agent(y, 2, 2);
        Check.due("nobody goes anywhere", y.meets(0), 0);
    }

    private static void onlyWhileOnTheRoad() {
        Check.says(18, "from an hour on (0 .. 11) a row of 1 .. 12 PLACES, hour by hour");
        DryLand x = new DryLand();
        truck(x, 2, -1, 1, 2);
        agent(x, 1, 1, 9, 9, 9, 9);
        agent(x, 9, 9, 9, 9, 2, 2);
        // It comes from nowhere and goes nowhere, so at its ends no places are changed.
        agent(x, 1, 1, 0, 9, 9, 9);
        agent(x, 9, 9, 9, 0, 2, 9);
        agent(x, 0, 0, 9, 9, 0, 0);
        Check.due("nobody", x.meets(0), 0);
        DryLand y = new DryLand();
        // A place that an earlier, longer row had is none of a later, shorter one.
        truck(y, 0, -1, 1, 2, 3);
        truck(y, 0, -1, 1);
        agent(y, 9, 9, 3);
        Check.due("the longer", y.meets(0), 1);
        Check.due("the shorter", y.meets(1), 0);
    }

    private static void allHoursOfATruck() {
        Check.says(18, "hour by hour");
        DryLand x = new DryLand();
        truck(x, 11, -1, 8, 8, 8, 8, 8, 8, 8, 8, 8, 8, 8, 5);
        truck(x, 11, -1, 5, 8, 8, 8, 8, 8, 8, 8, 8, 8, 8, 8);
        // Hour 22 is the rest 10 by 12 and 0 by 11, hour 11 is 11 and 0.
        agent(x, 9, 9, 9, 9, 9, 9, 9, 9, 9, 9, 5, 9);
        agent(x, 9, 9, 9, 9, 9, 9, 9, 9, 9, 9, 9, 5);
        agent(x, 5, 9, 9, 9, 9, 9, 9, 9, 9, 9, 9);
        Check.due("hour 22", x.meets(0), 5);
        Check.due("hour 11", x.meets(1), 6);
    }

    private static void noTrucks() {
        Check.says(19, "How many WORLDS there are");
        DryLand x = new DryLand();
        Check.due("nobody", x.worlds(), 1);
        for (int a = 1; a <= 8; a++) {
            agent(x, 1);
            Check.due("agents " + a, x.worlds(), 1 << a);
        }
    }

    private static void metByNobody() {
        Check.says(19, "of each that was STOPPED some who MEETS it is not");
        DryLand x = new DryLand();
        truck(x, 0, 1, 1);
        Check.due("through", x.worlds(), 1);
        x.came(0, -1);
        Check.due("not known", x.worlds(), 1);
        x.came(0, 0);
        Check.due("stopped by nobody", x.worlds(), 0);
        agent(x, 2);
        Check.due("who is elsewhere", x.worlds(), 0);
        agent(x, 1);
        Check.due("who is there", x.worlds(), 2);
    }

    private static void cameThroughAndStopped() {
        Check.says(19, "all who MEET a TRUCK that CAME THROUGH are in it");
        DryLand x = new DryLand();
        agent(x, 1);
        agent(x, 1);
        agent(x, 2);
        truck(x, 0, 1, 1);
        Check.due("through two", x.worlds(), 2);
        x.came(0, 0);
        Check.due("stopped by one of two", x.worlds(), 6);
        x.came(0, -1);
        Check.due("not known", x.worlds(), 8);
        truck(x, 0, 1, 1);
        x.came(0, 0);
        Check.due("both at once", x.worlds(), 0);
        x.came(1, 0);
        Check.due("both stopped", x.worlds(), 6);
    }

    private static void sureRefused() {
        Check.says(20, "OUTSIDE: who; UNKNOWN; NONE: there is no WORLD");
        DryLand x = new DryLand();
        for (int who : new int[] {-1, 2, Integer.MIN_VALUE, Integer.MAX_VALUE}) {
            Check.due("who " + who, x.sure(who, 0), DryLand.OUTSIDE);
            Check.due("who " + who, x.sure(who, -1), DryLand.OUTSIDE);
        }
        agent(x, 1);
        Check.due("no truck", x.sure(1, 0), DryLand.UNKNOWN);
        Check.due("an agent", x.sure(0, 0), 1);
        truck(x, 0, 0, 5);
        truck(x, 0, 0, 5);
        for (int n : new int[] {-1, 1, 2, Integer.MIN_VALUE, Integer.MAX_VALUE}) {
            Check.due("agent " + n, x.sure(0, n), DryLand.UNKNOWN);
        }
        for (int n : new int[] {-1, 2, Integer.MIN_VALUE, Integer.MAX_VALUE}) {
            Check.due("truck " + n, x.sure(1, n), DryLand.UNKNOWN);
        }
        Check.due("no world", x.sure(0, 0), DryLand.NONE);
        Check.due("no world", x.sure(1, 1), DryLand.NONE);
    }

    private static void sureOfAgents() {
        Check.says(20, "2 in all WORLDS, 0 in none, 1 in some");
        DryLand x = new DryLand();
        agent(x, 1);
        agent(x, 2);
        agent(x, 3);
        agent(x, 3);
        truck(x, 0, 1, 1);
        truck(x, 0, 0, 2);
        truck(x, 0, 0, 3);
        int[] want = {2, 0, 1, 1};
        for (int a = 0; a < 4; a++) {
            Check.due("agent " + a, x.sure(0, a), want[a]);
        }
        x.came(1, -1);
        Check.due("not known", x.sure(0, 1), 1);
    }

    private static void sureOfTrucks() {
        Check.says(20, "one that is known, too: whether all who MEET it are BRIBED");
        DryLand x = new DryLand();
        agent(x, 1);
        agent(x, 2);
        agent(x, 3);
        truck(x, 0, 1, 1);
        truck(x, 0, 0, 2);
        truck(x, 0, -1, 3);
        truck(x, 0, -1, 1);
        truck(x, 0, -1, 2);
        truck(x, 0, -1, 9);
        int[] want = {2, 0, 1, 2, 0, 2};
        for (int t = 0; t < want.length; t++) {
            Check.due("truck " + t, x.sure(1, t), want[t]);
        }
        Check.row(x, 0, 0, 1, 3);
        Check.due("of two, one of whom is sure", x.truck(0, -1, 0, 0, 0, 2), 6);
        // At hour 1 it is where the third agent is.
        Check.due("of two, one of whom is sure", x.sure(1, 6), 1);
        x.came(6, 1);
        Check.due("then all are", x.sure(1, 2), 2);
    }

    private static void sureOfNoWorld() {
        Check.says(20, "NONE: there is no WORLD");
        DryLand x = new DryLand();
        agent(x, 1);
        truck(x, 0, 1, 1);
        truck(x, 0, 0, 1);
        truck(x, 0, -1, 9);
        Check.due("agent", x.sure(0, 0), DryLand.NONE);
        for (int t = 0; t < 3; t++) {
            Check.due("truck " + t, x.sure(1, t), DryLand.NONE);
        }
        x.came(0, -1);
        Check.due("agent", x.sure(0, 0), 0);
        Check.due("truck", x.sure(1, 2), 2);
    }
}
