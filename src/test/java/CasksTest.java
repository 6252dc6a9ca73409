/** Promises 21 to 26 and 49 to 52: casks, facts, cut sets, bodies that tell. */
public final class CasksTest {
    public static void main(String[] args) {
        casksAndPersons();
        facts();
        cuts();
        knew();
        telling();
        casts();
        Check.end();
    }

    private static void casksAndPersons() {
        DryLand x = new DryLand();
        Check.due("cask", x.cask(-1, 0), DryLand.OUTSIDE);
        Check.due("cask", x.cask(3, 0), DryLand.OUTSIDE);
        Check.due("cask", x.cask(0, -1), DryLand.OUTSIDE);
        Check.due("cask", x.cask(0, 100), DryLand.OUTSIDE);
        for (int k = 0; k < 12; k++) {
            Check.due("cask " + k, x.cask(k % 3, 99 * (k % 2)), k);
            Check.due("person " + k, x.person(), k);
        }
        Check.due("cask 12", x.cask(0, 0), DryLand.FULL);
        Check.due("cask 12", x.cask(3, 0), DryLand.OUTSIDE);
        Check.due("person 12", x.person(), DryLand.FULL);
        Check.due("casks", x.many(5), 12);
        Check.due("persons", x.many(6), 12);
        Check.due("all sets", x.cut(0, 0), 4096);
        Check.due("the empty one", x.cut(0, 1), 0);
        for (int k = 0; k < 12; k++) {
            x.drank(k, k, 0);
            x.fell(k, k != 3, 0);
        }
        Check.due("one set", x.cut(0, 0), 1);
        Check.due("its size", x.cut(0, 1), 11);
        Check.due("in all", x.cut(0, 2), 4095 - 8);
        Check.due("ill", x.cut(0, 4), 4095 - 8);
        Check.due("well", x.cut(0, 5), 8);
        Check.due("knew", x.knew(11), 0);
    }

    private static void facts() {
        DryLand x = new DryLand();
        Check.due("drank", x.drank(0, 0, 100), DryLand.UNKNOWN);
        Check.due("fell", x.fell(0, true, 100), DryLand.UNKNOWN);
        x.person();
        Check.due("drank of none", x.drank(0, 0, 0), DryLand.UNKNOWN);
        x.cask(0, 0);
        Check.due("drank", x.drank(-1, 0, 0), DryLand.UNKNOWN);
        Check.due("drank", x.drank(1, 0, 0), DryLand.UNKNOWN);
        Check.due("drank", x.drank(0, -1, 0), DryLand.UNKNOWN);
        Check.due("drank", x.drank(0, 1, 0), DryLand.UNKNOWN);
        Check.due("drank", x.drank(0, 0, -1), DryLand.OUTSIDE);
        Check.due("drank", x.drank(0, 0, 100), DryLand.OUTSIDE);
        Check.due("fell", x.fell(-1, true, 0), DryLand.UNKNOWN);
        Check.due("fell", x.fell(1, true, 0), DryLand.UNKNOWN);
        Check.due("fell", x.fell(0, true, -1), DryLand.OUTSIDE);
        Check.due("fell", x.fell(0, true, 100), DryLand.OUTSIDE);
        for (int f = 0; f < 60; f += 2) {
            Check.due("fact " + f, x.drank(0, 0, 99), f);
            Check.due("fact " + f, x.fell(0, f % 4 == 0, 99), f + 1);
        }
        Check.due("fact 60", x.drank(0, 0, 0), DryLand.FULL);
        Check.due("fact 60", x.fell(0, true, 0), DryLand.FULL);
        Check.due("fact 60", x.fell(0, true, 100), DryLand.OUTSIDE);
        Check.due("how many", x.many(7), 60);
    }

    private static void cuts() {
        DryLand x = new DryLand();
        for (int k = 0; k < 4; k++) {
            x.cask(0, 0);
            x.person();
        }
        cut(x, 0, 16, 0, 0, 15, 0, 0);
        x.drank(0, 0, 1);
        x.drank(0, 1, 1);
        x.fell(0, true, 2);
        cut(x, 1, 16, 0, 0, 15, 0, 0);
        cut(x, 2, 12, 1, 0, 15, 1, 0);
        x.drank(1, 2, 5);
        x.drank(1, 3, 5);
        x.fell(1, true, 5);
        cut(x, 4, 12, 1, 0, 15, 1, 0);
        cut(x, 5, 9, 2, 0, 15, 3, 0);
        x.drank(2, 0, 6);
        x.fell(2, false, 6);
        cut(x, 6, 3, 2, 2, 14, 3, 4);
        // Ill of nothing that is known: no set explains it.
        x.fell(3, true, 7);
        cut(x, 7, 0, DryLand.NONE, 0, 0, 11, 4);
        // What was told last counts, if it is known, though it was known from an earlier day on.
        x.fell(3, false, 3);
        cut(x, 7, 3, 2, 2, 14, 3, 12);
        cut(x, 3, 12, 1, 0, 15, 1, 8);
        x.fell(2, true, 50);
        cut(x, 49, 3, 2, 2, 14, 3, 12);
        cut(x, 50, 6, 2, 1, 15, 7, 8);
        int[][] outside = {{-1, 0}, {100, 0}, {0, -1}, {0, 6}};
        for (int[] o : outside) {
            Check.due("cut", x.cut(o[0], o[1]), DryLand.OUTSIDE);
        }
    }

    private static void cut(DryLand x, int day, int... want) {
        for (int what = 0; what <= 5; what++) {
            Check.due("cut " + day + " " + what, x.cut(day, what), want[what]);
        }
    }

    private static void knew() {
        DryLand x = new DryLand();
        Check.due("knew of none", x.knew(0), DryLand.UNKNOWN);
        for (int k = 0; k < 3; k++) {
            x.cask(0, 0);
            x.person();
        }
        Check.due("knew", x.knew(0), DryLand.NONE);
        x.drank(0, 0, 10);
        x.drank(0, 1, 10);
        x.fell(0, true, 20);
        Check.due("knew", x.knew(0), DryLand.NONE);
        x.drank(1, 0, 30);
        x.fell(1, false, 40);
        Check.due("knew", x.knew(0), DryLand.NONE);
        Check.due("knew", x.knew(1), 40);
        // Then one falls ill of nothing: no set, so nothing is known to be in all; but it was.
        x.fell(2, true, 60);
        Check.due("knew", x.knew(1), 40);
        x.fell(2, true, 35);
        Check.due("knew", x.knew(1), DryLand.NONE);
        x.drank(2, 2, 99);
        Check.due("knew", x.knew(1), 99);
        Check.due("knew", x.knew(2), 99);
        Check.due("knew", x.knew(-1), DryLand.UNKNOWN);
        Check.due("knew", x.knew(3), DryLand.UNKNOWN);
        DryLand y = new DryLand();
        y.cask(0, 0);
        y.person();
        y.drank(0, 0, 0);
        y.fell(0, true, 0);
        Check.due("knew at once", y.knew(0), 0);
    }

    private static void telling() {
        DryLand x = new DryLand();
        Check.due("tell of none", x.tell(0), DryLand.UNKNOWN);
        Check.due("hang of none", x.hang(0), DryLand.UNKNOWN);
        x.person();
        x.cask(0, 7);
        x.cask(1, 50);
        x.cask(2, 99);
        for (int c = 0; c < 3; c++) {
            x.drank(0, c, 99);
            x.drank(0, c, 0);
            x.fell(0, true, 0);
        }
        int trace = 0;
        Check.due("tell 0", x.tell(0), 7);
        trace = traced(x, trace, 1);
        Check.due("tell 1", x.tell(1), 52);
        trace = traced(x, trace, 2, 1);
        Check.due("tell 2", x.tell(2), 99 + 2 + 99);
        trace = traced(x, trace, 3, 2, 1, 1);
        Check.due("hang 0", x.hang(0), 0);
        trace = traced(x, trace, 4);
        Check.due("hang 1", x.hang(1), 1);
        trace = traced(x, trace, 4);
        Check.due("hang 2", x.hang(2), 45);
        trace = traced(x, trace, 5);
        Check.due("tell", x.tell(-1), DryLand.UNKNOWN);
        Check.due("tell", x.tell(3), DryLand.UNKNOWN);
        Check.due("hang", x.hang(-1), DryLand.UNKNOWN);
        Check.due("hang", x.hang(3), DryLand.UNKNOWN);
        traced(x, trace);
        DryLand y = new DryLand();
        y.person();
        y.cask(1, 3);
        y.drank(0, 0, 0);
        Check.due("tell with one fact", y.tell(0), 4);
    }

    private static int traced(DryLand x, int before, int... bodies) {
        int trace = before;
        for (int body : bodies) {
            trace = trace * 31 + body;
        }
        Check.due("trace", x.trace(), trace);
        return trace;
    }

    private static void casts() {
        DryLand x = new DryLand();
        as(x, 0, 3, DryLand.UNKNOWN, 0);
        x.cask(0, 0);
        x.cask(1, 0);
        x.cask(2, 0);
        for (int c = 0; c < 3; c++) {
            for (int kind = 0; kind < 3; kind++) {
                as(x, c, kind, kind <= c ? 1 : -12, kind <= c ? 0 : 2);
            }
        }
        as(x, 0, 2, -12, 2);
        as(x, 0, 3, DryLand.OUTSIDE, 0);
        as(x, 0, 2, -12, 2);
        as(x, 3, 0, DryLand.UNKNOWN, 0);
        as(x, -1, 0, DryLand.UNKNOWN, 0);
        as(x, 2, -1, DryLand.OUTSIDE, 0);
    }

    private static void as(DryLand x, int c, int kind, int want, int fault) {
        Check.due("as " + c + " " + kind, x.as(c, kind), want);
        Check.due("fault", x.fault(), fault);
    }
}
