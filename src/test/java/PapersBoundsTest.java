/** Promises 27 to 32, sentence by sentence: the bounds that the document names. */
public final class PapersBoundsTest {
    public static void main(String[] args) {
        twentyFourRaids();
        byNone();
        byPapersAhead();
        twentyFourPapers();
        metRefused();
        metOrNot();
        noPapers();
        allByWhich();
        chainOfPapers();
        savedRefused();
        savedByRaids();
        savedByAll();
        worstOfNone();
        worstOfSeveral();
        Check.covers(27, 32);
        Check.end();
    }

    private static void twentyFourRaids() {
        Check.says(27, "24 ever // A RAID: its number. FULL");
        DryLand x = new DryLand();
        for (int p = 0; p < 24; p++) {
            Check.due("raid " + p, x.raid(p != 23), p);
        }
        Check.due("raid 24", x.raid(false), DryLand.FULL);
        Check.due("raid 24", x.raid(true), DryLand.FULL);
        Check.due("many", x.many(8), 24);
        Check.due("voids", x.voids(), 1 << 23);
    }

    private static void byNone() {
        Check.says(28, "OUTSIDE: none, or such as there are not");
        DryLand x = new DryLand();
        Check.due("by none", x.paper(0), DryLand.OUTSIDE);
        Check.due("by itself", x.paper(1), DryLand.OUTSIDE);
        Check.due("by all bits", x.paper(-1), DryLand.OUTSIDE);
        x.raid(true);
        Check.due("by none", x.paper(0), DryLand.OUTSIDE);
        Check.due("many", x.many(8), 1);
    }

    private static void byPapersAhead() {
        Check.says(28, "what was found by some PAPERS ahead of it");
        DryLand x = new DryLand();
        x.raid(true);
        for (int p = 1; p < 24; p++) {
            Check.due("by itself", x.paper(1 << p), DryLand.OUTSIDE);
            Check.due("by itself, too", x.paper(1 << p | 1), DryLand.OUTSIDE);
            Check.due("by bit 31", x.paper(1 << 31), DryLand.OUTSIDE);
            Check.due("by bit 31, too", x.paper(1 << 31 | 1), DryLand.OUTSIDE);
            int by = p % 2 == 0 ? 1 << p - 1 : (1 << p) - 1;
            Check.due("paper " + p, x.paper(by), p);
        }
        Check.due("many", x.many(8), 24);
        x.met(0, false);
        Check.due("all are found by it", x.voids(), (1 << 24) - 1);
    }

    private static void twentyFourPapers() {
        Check.says(28, "24 ever");
        DryLand x = new DryLand();
        x.raid(true);
        for (int p = 1; p < 24; p++) {
            Check.due("paper " + p, x.paper(1), p);
        }
        Check.due("paper 24", x.paper(1), DryLand.FULL);
        Check.due("by the last", x.paper(1 << 23), DryLand.FULL);
        Check.due("by all", x.paper((1 << 24) - 1), DryLand.FULL);
        Check.due("by none", x.paper(0), DryLand.OUTSIDE);
        Check.due("by one there is not", x.paper(1 << 24), DryLand.OUTSIDE);
        Check.due("by one there is not, too", x.paper(1 << 24 | 1), DryLand.OUTSIDE);
        Check.due("many", x.many(8), 24);
    }

    private static void metRefused() {
        Check.says(29, "UNKNOWN; STATE: it is no RAID");
        DryLand x = new DryLand();
        Check.due("none yet", x.met(0, true), DryLand.UNKNOWN);
        x.raid(false);
        x.paper(1);
        for (int p : new int[] {-1, 2, Integer.MIN_VALUE, Integer.MAX_VALUE}) {
            Check.due("paper " + p, x.met(p, true), DryLand.UNKNOWN);
            Check.due("paper " + p, x.met(p, false), DryLand.UNKNOWN);
        }
        Check.due("no raid", x.met(1, true), DryLand.STATE);
        Check.due("no raid", x.met(1, false), DryLand.STATE);
        Check.due("as it was", x.voids(), 3);
    }

    private static void metOrNot() {
        Check.says(29, "1; 0: it was so");
        DryLand x = new DryLand();
        x.raid(false);
        x.raid(true);
        Check.due("it was so", x.met(0, false), 0);
        Check.due("it was so", x.met(1, true), 0);
        Check.due("void", x.voids(), 1);
        Check.due("it was not", x.met(0, true), 1);
        Check.due("it was not", x.met(1, false), 1);
        Check.due("void", x.voids(), 2);
        Check.due("it was so", x.met(0, true), 0);
        Check.due("it was so", x.met(1, false), 0);
    }

    private static void noPapers() {
        Check.says(30, "PAPERS that are VOID, as a set");
        DryLand x = new DryLand();
        Check.due("no papers", x.voids(), 0);
        x.raid(true);
        Check.due("none is", x.voids(), 0);
        x.met(0, false);
        Check.due("all are", x.voids(), 1);
        for (int p = 1; p < 24; p++) {
            x.raid(false);
        }
        Check.due("all are", x.voids(), (1 << 24) - 1);
    }

    private static void allByWhich() {
        Check.says(30, "a PAPER all by which it was found are VOID");
        DryLand x = new DryLand();
        x.raid(false);
        x.raid(false);
        x.raid(true);
        x.paper(1);
        x.paper(3);
        x.paper(7);
        x.paper(4);
        Check.due("all but what a good one found", x.voids(), 1 | 2 | 8 | 16);
        x.met(2, false);
        Check.due("all", x.voids(), 127);
        x.met(0, true);
        Check.due("some", x.voids(), 2 | 4 | 64);
    }

    private static void chainOfPapers() {
        Check.says(30, "VOID: a RAID of which it was not MET");
        DryLand x = new DryLand();
        x.raid(false);
        for (int p = 1; p < 24; p++) {
            x.paper(1 << p - 1);
        }
        Check.due("one hangs on the other", x.voids(), (1 << 24) - 1);
        Check.due("saved", x.saved(0), 24);
        Check.due("worst", x.worst(), 0);
        x.met(0, true);
        Check.due("none is", x.voids(), 0);
    }

    private static void savedRefused() {
        Check.says(31, "UNKNOWN; STATE: it is no RAID, or it is MET");
        DryLand x = new DryLand();
        Check.due("none yet", x.saved(0), DryLand.UNKNOWN);
        x.raid(false);
        x.raid(true);
        x.paper(1);
        for (int p : new int[] {-1, 3, Integer.MIN_VALUE, Integer.MAX_VALUE}) {
            Check.due("paper " + p, x.saved(p), DryLand.UNKNOWN);
        }
        Check.due("it is met", x.saved(1), DryLand.STATE);
        Check.due("it is no raid", x.saved(2), DryLand.STATE);
        Check.due("it is not met", x.saved(0), 2);
        x.met(0, true);
        Check.due("now it is", x.saved(0), DryLand.STATE);
        x.met(1, false);
        Check.due("now it is not", x.saved(1), 1);
    }

    private static void savedByRaids() {
        Check.says(31, "how many more PAPERS would not be VOID, if it were MET");
        DryLand x = new DryLand();
        x.raid(false);
        Check.due("itself", x.saved(0), 1);
        x.raid(false);
        x.raid(true);
        x.paper(3);
        Check.due("what either found", x.saved(0), 2);
        Check.due("what either found", x.saved(1), 2);
        x.paper(5);
        Check.due("what is not void", x.saved(0), 2);
        x.paper(1 << 3);
        Check.due("what was found by that", x.saved(1), 3);
        x.met(0, true);
        Check.due("what is not void now", x.saved(1), 1);
        Check.due("asking leaves it", x.voids(), 2);
    }

    private static void savedByAll() {
        Check.says(31, "how many more PAPERS");
        DryLand x = new DryLand();
        for (int p = 0; p < 12; p++) {
            x.raid(false);
        }
        for (int p = 12; p < 24; p++) {
            x.paper((1 << 12) - 1);
        }
        for (int p = 0; p < 12; p++) {
            Check.due("raid " + p, x.saved(p), 13);
        }
        Check.due("worst", x.worst(), 0);
    }

    private static void worstOfNone() {
        Check.says(32, "NONE: there is none");
        DryLand x = new DryLand();
        Check.due("no papers", x.worst(), DryLand.NONE);
        x.raid(true);
        x.paper(1);
        Check.due("all met", x.worst(), DryLand.NONE);
        x.raid(false);
        Check.due("one", x.worst(), 2);
        x.met(2, true);
        Check.due("all met", x.worst(), DryLand.NONE);
    }

    private static void worstOfSeveral() {
        Check.says(32, "by which the most are SAVED, of several the first");
        DryLand x = new DryLand();
        x.raid(true);
        x.raid(false);
        x.raid(false);
        Check.due("of like ones", x.worst(), 1);
        x.paper(1 << 2);
        Check.due("one more", x.worst(), 2);
        x.paper(1 << 1);
        Check.due("of like ones", x.worst(), 1);
        x.met(1, true);
        Check.due("it is met", x.worst(), 2);
        x.met(0, false);
        Check.due("the most", x.worst(), 2);
        for (int p = 5; p < 24; p++) {
            x.raid(false);
        }
        Check.due("of all", x.worst(), 2);
        x.met(2, true);
        Check.due("of like ones", x.worst(), 0);
    }
}
