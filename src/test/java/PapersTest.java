/** Promises 27 to 32: raids and papers. */
public final class PapersTest {
    public static void main(String[] args) {
        papers();
        met();
        voidsAndSaved();
        Check.end();
    }

    private static void papers() {
        DryLand x = new DryLand();
        Check.due("paper by none", x.paper(0), DryLand.OUTSIDE);
        Check.due("paper by itself", x.paper(1), DryLand.OUTSIDE);
        Check.due("raid", x.raid(true), 0);
        Check.due("paper", x.paper(0), DryLand.OUTSIDE);
        Check.due("paper", x.paper(2), DryLand.OUTSIDE);
        Check.due("paper", x.paper(3), DryLand.OUTSIDE);
        Check.due("paper", x.paper(-1), DryLand.OUTSIDE);
        Check.due("paper", x.paper(1 << 31), DryLand.OUTSIDE);
        for (int p = 1; p < 24; p++) {
            Check.due("paper " + p, p % 2 == 0 ? x.raid(false) : x.paper((1 << p) - 1), p);
        }
        Check.due("paper 24", x.paper((1 << 24) - 1), DryLand.FULL);
        Check.due("paper 24", x.paper(1 << 24), DryLand.OUTSIDE);
        Check.due("paper 24", x.paper(0), DryLand.OUTSIDE);
        Check.due("raid 24", x.raid(true), DryLand.FULL);
        Check.due("how many", x.many(8), 24);
    }

    private static void met() {
        DryLand x = new DryLand();
        Check.due("met", x.met(0, true), DryLand.UNKNOWN);
        x.raid(true);
        x.raid(false);
        x.paper(1);
        Check.due("met", x.met(0, true), 0);
        Check.due("met", x.met(0, false), 1);
        Check.due("met", x.met(0, false), 0);
        Check.due("void now", x.voids(), 7);
        Check.due("met", x.met(0, true), 1);
        Check.due("void now", x.voids(), 2);
        Check.due("met", x.met(1, false), 0);
        Check.due("met", x.met(1, true), 1);
        Check.due("void now", x.voids(), 0);
        Check.due("met", x.met(2, true), DryLand.STATE);
        Check.due("met", x.met(-1, true), DryLand.UNKNOWN);
        Check.due("met", x.met(3, true), DryLand.UNKNOWN);
    }

    private static void voidsAndSaved() {
        DryLand x = new DryLand();
        Check.due("worst", x.worst(), DryLand.NONE);
        x.raid(true);
        Check.due("worst", x.worst(), DryLand.NONE);
        x.raid(false);
        x.raid(false);
        x.paper(1 << 1);
        x.paper(1 << 1 | 1 << 2);
        x.paper(1 << 0 | 1 << 1);
        x.paper(1 << 3 | 1 << 4);
        x.paper(1 << 4 | 1 << 5);
        Check.due("voids", x.voids(), 1 << 1 | 1 << 2 | 1 << 3 | 1 << 4 | 1 << 6);
        Check.due("saved by 1", x.saved(1), 4);
        Check.due("saved by 2", x.saved(2), 3);
        Check.due("worst", x.worst(), 1);
        x.paper(1 << 2);
        Check.due("saved by 2", x.saved(2), 4);
        Check.due("the first of several", x.worst(), 1);
        x.paper(1 << 8);
        Check.due("saved by 2", x.saved(2), 5);
        Check.due("worst", x.worst(), 2);
        Check.due("asking changes nothing", x.voids(), 1 << 1 | 1 << 2 | 1 << 3 | 1 << 4 | 1 << 6 | 1 << 8 | 1 << 9);
        Check.due("saved", x.saved(0), DryLand.STATE);
        Check.due("saved", x.saved(3), DryLand.STATE);
        Check.due("saved", x.saved(-1), DryLand.UNKNOWN);
        Check.due("saved", x.saved(10), DryLand.UNKNOWN);
        x.met(2, true);
        Check.due("saved", x.saved(2), DryLand.STATE);
        Check.due("voids", x.voids(), 1 << 1 | 1 << 3);
        Check.due("saved by 1", x.saved(1), 2);
        Check.due("worst", x.worst(), 1);
    }
}
