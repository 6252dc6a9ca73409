/** Promises 21 to 26 and 49 to 52, sentence by sentence: the bounds that the document names. */
public final class CasksBoundsTest {
    public static void main(String[] args) {
        caskBounds();
        twelveCasks();
        twelvePersons();
        drankRefused();
        fellRefused();
        factBounds();
        sixtyEver();
        cutRefused();
        nothingKnown();
        knownFromADayOn();
        latestToldCounts();
        eachThatIsIll();
        eachThatIsWell();
        fewest();
        noCutSet();
        allCasks();
        knewRefused();
        firstDay();
        neverKnown();
        tellRefused();
        tellOfEach();
        factsThatTell();
        hangs();
        asRefused();
        asKinds();
        traceWraps();
        Check.covers(21, 26);
        Check.covers(49, 52);
        Check.end();
    }

    private static DryLand with(int casks, int persons) {
        DryLand x = new DryLand();
        for (int c = 0; c < casks; c++) {
            x.cask(0, 0);
        }
        for (int p = 0; p < persons; p++) {
            x.person();
        }
        return x;
    }

    private static void caskBounds() {
        Check.says(21, "OUTSIDE; FULL // of a strength (0 .. 99)");
        DryLand x = new DryLand();
        for (int kind : new int[] {-1, 3, Integer.MIN_VALUE, Integer.MAX_VALUE}) {
            Check.due("kind " + kind, x.cask(kind, 0), DryLand.OUTSIDE);
        }
        for (int strength : new int[] {-1, 100, Integer.MIN_VALUE, Integer.MAX_VALUE}) {
            Check.due("strength " + strength, x.cask(0, strength), DryLand.OUTSIDE);
        }
        Check.due("many", x.many(5), 0);
        Check.due("kind 0", x.cask(0, 0), 0);
        Check.due("kind 1", x.cask(1, 50), 1);
        Check.due("kind 2", x.cask(2, 99), 2);
        Check.due("strength 99", x.cask(0, 99), 3);
        Check.due("its strength", x.tell(0), 0);
        Check.due("its strength", x.tell(3), 99);
    }

    private static void twelveCasks() {
        Check.says(21, "12 ever");
        DryLand x = new DryLand();
        for (int c = 0; c < 12; c++) {
            Check.due("cask " + c, x.cask(0, c), c);
        }
        Check.due("cask 12", x.cask(0, 0), DryLand.FULL);
        Check.due("of no kind", x.cask(3, 0), DryLand.OUTSIDE);
        Check.due("of no strength", x.cask(0, 100), DryLand.OUTSIDE);
        Check.due("many", x.many(5), 12);
        Check.due("the last one", x.tell(11), 11);
        Check.due("behind it", x.tell(12), DryLand.UNKNOWN);
    }

    private static void twelvePersons() {
        Check.says(22, "12 ever // A PERSON: its number. FULL");
        DryLand x = with(1, 0);
        for (int p = 0; p < 12; p++) {
            Check.due("person " + p, x.person(), p);
        }
        Check.due("person 12", x.person(), DryLand.FULL);
        Check.due("again", x.person(), DryLand.FULL);
        Check.due("many", x.many(6), 12);
        Check.due("the last one", x.fell(11, true, 0), 0);
        Check.due("behind it", x.fell(12, true, 0), DryLand.UNKNOWN);
        Check.due("ill", x.cut(0, 4), 1 << 11);
    }

    private static void drankRefused() {
        Check.says(23, "UNKNOWN; OUTSIDE; FULL");
        DryLand x = new DryLand();
        Check.due("no person", x.drank(0, 0, 0), DryLand.UNKNOWN);
        x.person();
        Check.due("no cask", x.drank(0, 0, 0), DryLand.UNKNOWN);
        DryLand y = with(1, 0);
        Check.due("no person", y.drank(0, 0, 0), DryLand.UNKNOWN);
        DryLand z = with(2, 3);
        for (int p : new int[] {-1, 3, Integer.MIN_VALUE, Integer.MAX_VALUE}) {
            Check.due("person " + p, z.drank(p, 0, 0), DryLand.UNKNOWN);
            Check.due("person " + p, z.drank(p, 0, 100), DryLand.UNKNOWN);
        }
        for (int c : new int[] {-1, 2, DryLand.NONE, Integer.MIN_VALUE, Integer.MAX_VALUE}) {
            Check.due("cask " + c, z.drank(0, c, 0), DryLand.UNKNOWN);
            Check.due("cask " + c, z.drank(0, c, -1), DryLand.UNKNOWN);
        }
        for (int day : new int[] {-1, 100, Integer.MIN_VALUE, Integer.MAX_VALUE}) {
            Check.due("day " + day, z.drank(0, 0, day), DryLand.OUTSIDE);
        }
        Check.due("many", z.many(7), 0);
        Check.due("the last of both", z.drank(2, 1, 0), 0);
    }

    private static void fellRefused() {
        Check.says(24, "UNKNOWN; OUTSIDE; FULL");
        DryLand x = new DryLand();
        Check.due("no person", x.fell(0, true, 0), DryLand.UNKNOWN);
        x.person();
        x.person();
        for (int p : new int[] {-1, 2, Integer.MIN_VALUE, Integer.MAX_VALUE}) {
            Check.due("person " + p, x.fell(p, true, 0), DryLand.UNKNOWN);
            Check.due("person " + p, x.fell(p, false, 100), DryLand.UNKNOWN);
        }
        for (int day : new int[] {-1, 100, Integer.MIN_VALUE, Integer.MAX_VALUE}) {
            Check.due("day " + day, x.fell(0, true, day), DryLand.OUTSIDE);
            Check.due("day " + day, x.fell(1, false, day), DryLand.OUTSIDE);
        }
        Check.due("many", x.many(7), 0);
        Check.due("nobody is ill", x.cut(99, 4), 0);
        Check.due("nobody is well", x.cut(99, 5), 0);
    }

    private static void factBounds() {
        Check.says(24, "each KNOWN from a DAY on");
        DryLand x = with(1, 2);
        Check.due("drank on 0", x.drank(0, 0, 0), 0);
        Check.due("drank on 99", x.drank(1, 0, 99), 1);
        Check.due("ill on 0", x.fell(0, true, 0), 2);
        Check.due("well on 99", x.fell(1, false, 99), 3);
        Check.due("ill at once", x.cut(0, 4), 1);
        Check.due("not yet well", x.cut(98, 5), 0);
        Check.due("well at last", x.cut(99, 5), 2);
        Check.due("sets", x.cut(98, 0), 1);
        Check.due("no set", x.cut(99, 0), 0);
    }

    private static void sixtyEver() {
        Check.says(23, "60 ever");
        DryLand x = with(1, 1);
        for (int f = 0; f < 59; f++) {
            Check.due("fact " + f, x.drank(0, 0, 99), f);
        }
        Check.due("fact 59", x.fell(0, true, 99), 59);
        Check.due("fact 60", x.drank(0, 0, 0), DryLand.FULL);
        Check.says(24, "60 ever");
        Check.due("fact 60", x.fell(0, false, 0), DryLand.FULL);
        Check.due("of no day", x.drank(0, 0, 100), DryLand.OUTSIDE);
        Check.due("of no day", x.fell(0, true, -1), DryLand.OUTSIDE);
        Check.due("of no person", x.fell(1, true, 0), DryLand.UNKNOWN);
        Check.due("of no cask", x.drank(0, 1, 0), DryLand.UNKNOWN);
        Check.due("many", x.many(7), 60);
        Check.due("not yet", x.cut(98, 4), 0);
        Check.due("the last one counts", x.cut(99, 4), 1);
        Check.due("none is well", x.cut(99, 5), 0);
        Check.due("one set", x.cut(99, 0), 1);
    }

    private static void cutRefused() {
        Check.says(25, "OUTSIDE");
        DryLand x = with(1, 1);
        for (int day : new int[] {-1, 100, Integer.MIN_VALUE, Integer.MAX_VALUE}) {
            for (int what = 0; what <= 5; what++) {
                Check.due("day " + day + " what " + what, x.cut(day, what), DryLand.OUTSIDE);
            }
        }
        for (int what : new int[] {-1, 6, Integer.MIN_VALUE, Integer.MAX_VALUE}) {
            Check.due("what " + what, x.cut(0, what), DryLand.OUTSIDE);
            Check.due("what " + what, x.cut(99, what), DryLand.OUTSIDE);
        }
    }

    private static void cut(DryLand x, int day, int... want) {
        for (int what = 0; what <= 5; what++) {
            Check.due("day " + day + " what " + what, x.cut(day, what), want[what]);
        }
    }

    private static void nothingKnown() {
        Check.says(25, "As KNOWN on a DAY");
        cut(new DryLand(), 0, 1, 0, 0, 0, 0, 0);
        cut(with(0, 1), 99, 1, 0, 0, 0, 0, 0);
        cut(with(1, 0), 0, 2, 0, 0, 1, 0, 0);
        cut(with(12, 12), 99, 4096, 0, 0, 4095, 0, 0);
    }

    private static void knownFromADayOn() {
        Check.says(25, "each KNOWN from a DAY on");
        DryLand x = with(2, 1);
        x.drank(0, 0, 10);
        x.fell(0, true, 20);
        cut(x, 9, 4, 0, 0, 3, 0, 0);
        cut(x, 10, 4, 0, 0, 3, 0, 0);
        cut(x, 19, 4, 0, 0, 3, 0, 0);
        cut(x, 20, 2, 1, 1, 3, 1, 0);
        cut(x, 99, 2, 1, 1, 3, 1, 0);
        // A day that is asked for behind a later one is not told what was known later.
        cut(x, 9, 4, 0, 0, 3, 0, 0);
        DryLand y = with(2, 1);
        // Ill ahead of what is known to have been drunk: no set, till it is.
        y.fell(0, true, 10);
        y.drank(0, 1, 20);
        cut(y, 9, 4, 0, 0, 3, 0, 0);
        cut(y, 10, 0, DryLand.NONE, 0, 0, 1, 0);
        cut(y, 19, 0, DryLand.NONE, 0, 0, 1, 0);
        cut(y, 20, 2, 1, 2, 3, 1, 0);
        cut(y, 10, 0, DryLand.NONE, 0, 0, 1, 0);
    }

    private static void latestToldCounts() {
        Check.says(25, "(the latest told of those KNOWN counts)");
        DryLand x = with(1, 1);
        x.drank(0, 0, 0);
        x.fell(0, true, 50);
        x.fell(0, false, 30);
        x.fell(0, true, 70);
        cut(x, 29, 2, 0, 0, 1, 0, 0);
        cut(x, 30, 1, 0, 0, 0, 0, 1);
        // From 50 on both are known; that it was well was told later.
        cut(x, 50, 1, 0, 0, 0, 0, 1);
        cut(x, 69, 1, 0, 0, 0, 0, 1);
        cut(x, 70, 1, 1, 1, 1, 1, 0);
        x.fell(0, false, 70);
        cut(x, 70, 1, 0, 0, 0, 0, 1);
    }

    private static void eachThatIsIll() {
        Check.says(25, "each PERSON that is ill drank of one of it");
        DryLand x = with(3, 3);
        x.drank(0, 0, 0);
        x.drank(0, 1, 0);
        x.drank(1, 1, 0);
        x.drank(1, 2, 0);
        // Of a person of whom nothing is told no cask is known to be anything.
        x.drank(2, 0, 0);
        x.fell(0, true, 1);
        x.fell(1, true, 2);
        cut(x, 0, 8, 0, 0, 7, 0, 0);
        cut(x, 1, 6, 1, 0, 7, 1, 0);
        cut(x, 2, 5, 1, 0, 7, 3, 0);
    }

    private static void eachThatIsWell() {
        Check.says(25, "each that is well of none");
        DryLand x = with(3, 3);
        x.drank(0, 0, 0);
        x.drank(0, 1, 0);
        x.fell(0, true, 0);
        x.fell(1, false, 0);
        cut(x, 0, 6, 1, 0, 7, 1, 2);
        x.drank(1, 0, 1);
        cut(x, 1, 2, 1, 2, 6, 1, 2);
        x.drank(1, 2, 2);
        cut(x, 2, 1, 1, 2, 2, 1, 2);
        x.drank(1, 1, 3);
        cut(x, 3, 0, DryLand.NONE, 0, 0, 1, 2);
        DryLand y = with(2, 1);
        y.fell(0, false, 0);
        y.drank(0, 0, 0);
        y.drank(0, 1, 0);
        cut(y, 0, 1, 0, 0, 0, 0, 1);
        DryLand z = with(3, 2);
        for (int p = 0; p < 2; p++) {
            z.drank(p, p, 0);
            z.fell(p, false, 0);
        }
        cut(z, 0, 2, 0, 0, 4, 0, 3);
    }

    private static void fewest() {
        Check.says(25, "how many CASKS the CUT set with the fewest has");
        DryLand x = with(12, 12);
        for (int p = 0; p < 12; p++) {
            x.drank(p, p, p);
            x.fell(p, true, p);
        }
        for (int day = 0; day < 12; day++) {
            Check.due("fewest on " + day, x.cut(day, 1), day + 1);
            Check.due("in all on " + day, x.cut(day, 2), (2 << day) - 1);
            Check.due("in some on " + day, x.cut(day, 3), 4095);
            Check.due("sets on " + day, x.cut(day, 0), 1 << 11 - day);
        }
        // One cask of which all drank is enough.
        for (int p = 0; p < 12; p++) {
            x.drank(p, 0, 50);
        }
        Check.due("one of all", x.cut(50, 1), 1);
        Check.due("the one for the first", x.cut(50, 2), 1);
    }

    private static void noCutSet() {
        Check.says(25, "(0: there is no CUT set)");
        DryLand x = with(3, 2);
        x.fell(0, true, 5);
        x.fell(1, false, 5);
        cut(x, 4, 8, 0, 0, 7, 0, 0);
        cut(x, 5, 0, DryLand.NONE, 0, 0, 1, 2);
        DryLand none = with(0, 1);
        none.fell(0, true, 0);
        cut(none, 0, 0, DryLand.NONE, 0, 0, 1, 0);
    }

    private static void allCasks() {
        Check.says(25, "2 CASKS that are in all, 3 in some, as sets");
        DryLand x = with(12, 12);
        x.drank(11, 11, 0);
        x.fell(11, true, 0);
        x.drank(10, 0, 0);
        x.fell(10, false, 0);
        cut(x, 0, 1 << 10, 1, 1 << 11, 4094, 1 << 11, 1 << 10);
    }

    private static void knewRefused() {
        Check.says(26, "UNKNOWN");
        DryLand x = new DryLand();
        Check.due("none yet", x.knew(0), DryLand.UNKNOWN);
        x.cask(0, 0);
        for (int c : new int[] {-1, 1, Integer.MIN_VALUE, Integer.MAX_VALUE}) {
            Check.due("cask " + c, x.knew(c), DryLand.UNKNOWN);
        }
        Check.due("cask 0", x.knew(0), DryLand.NONE);
    }

    private static void firstDay() {
        Check.says(26, "The first DAY on which it is KNOWN that a CASK is in all CUT sets");
        for (int day : new int[] {0, 1, 98, 99}) {
            DryLand x = with(12, 1);
            x.drank(0, 11, 0);
            x.fell(0, true, day);
            Check.due("from " + day, x.knew(11), day);
            Check.due("another one", x.knew(0), DryLand.NONE);
        }
        DryLand y = with(2, 2);
        y.drank(0, 0, 10);
        y.fell(0, true, 10);
        y.drank(0, 1, 20);
        // What was known on a day stays known of that day.
        Check.due("ahead of more that is known", y.knew(0), 10);
        y.fell(0, false, 30);
        Check.due("ahead of more that is known", y.knew(0), 10);
        y.fell(0, false, 10);
        Check.due("told otherwise", y.knew(0), DryLand.NONE);
    }

    private static void neverKnown() {
        Check.says(26, "(there is one at least); NONE");
        DryLand x = with(2, 1);
        x.fell(0, true, 5);
        Check.due("no set at all", x.knew(0), DryLand.NONE);
        Check.due("no set at all", x.knew(1), DryLand.NONE);
        x.drank(0, 0, 6);
        Check.due("a set at last", x.knew(0), 6);
        DryLand y = with(2, 1);
        y.drank(0, 0, 0);
        y.drank(0, 1, 0);
        y.fell(0, true, 0);
        Check.due("one of two", y.knew(0), DryLand.NONE);
        Check.due("one of two", y.knew(1), DryLand.NONE);
    }

    private static void tellRefused() {
        Check.says(49, "TELLING of a CASK. UNKNOWN");
        DryLand x = new DryLand();
        Check.due("none yet", x.tell(0), DryLand.UNKNOWN);
        Check.due("trace", x.trace(), 0);
        x.cask(2, 7);
        for (int c : new int[] {-1, 1, Integer.MIN_VALUE, Integer.MAX_VALUE}) {
            Check.due("cask " + c, x.tell(c), DryLand.UNKNOWN);
        }
        Check.due("no body has begun", x.trace(), 0);
    }

    private static void tellOfEach() {
        Check.says(49, "by bodies that leave their number in TRACE");
        int[] strengths = {0, 99};
        for (int strength : strengths) {
            int[] want = {strength, strength + 1, 2 * strength + 1};
            int[] traces = {1, 2 * 31 + 1, ((3 * 31 + 2) * 31 + 1) * 31 + 1};
            for (int kind = 0; kind <= 2; kind++) {
                DryLand x = new DryLand();
                x.person();
                x.cask(kind, strength);
                x.drank(0, 0, 99);
                Check.due("kind " + kind, x.tell(0), want[kind]);
                Check.due("trace", x.trace(), traces[kind]);
            }
        }
    }

    private static void factsThatTell() {
        Check.says(49, "and how many FACTS tell of it");
        DryLand x = new DryLand();
        x.person();
        x.cask(1, 99);
        x.cask(2, 99);
        Check.due("no fact", x.tell(0), 99);
        Check.due("no fact", x.tell(1), 198);
        x.fell(0, true, 0);
        Check.due("a fact of no cask", x.tell(0), 99);
        for (int f = 1; f <= 59; f++) {
            x.drank(0, 0, f);
        }
        Check.due("59 facts", x.tell(0), 99 + 59);
        Check.due("facts of another", x.tell(1), 198);
        Check.due("full", x.drank(0, 0, 0), DryLand.FULL);
        Check.due("59 facts", x.tell(0), 99 + 59);
    }

    private static void hangs() {
        Check.says(50, "How it is HUNG. UNKNOWN");
        DryLand x = new DryLand();
        Check.due("none yet", x.hang(0), DryLand.UNKNOWN);
        Check.due("trace", x.trace(), 0);
        for (int c = 0; c < 12; c++) {
            x.cask(c % 3, 99);
        }
        int trace = 0;
        for (int c = 0; c < 12; c++) {
            Check.due("hang " + c, x.hang(c), c % 3 == 2 ? 45 : c);
            trace = 31 * trace + (c % 3 == 2 ? 5 : 4);
            Check.due("trace", x.trace(), trace);
        }
        for (int c : new int[] {-1, 12, Integer.MIN_VALUE, Integer.MAX_VALUE}) {
            Check.due("cask " + c, x.hang(c), DryLand.UNKNOWN);
        }
        Check.due("trace", x.trace(), trace);
    }

    private static void asRefused() {
        Check.says(51, "UNKNOWN; OUTSIDE; CAST: it is none");
        DryLand x = new DryLand();
        as(x, 0, 0, DryLand.UNKNOWN, 0);
        x.cask(2, 0);
        x.cask(0, 0);
        for (int c : new int[] {-1, 2, Integer.MIN_VALUE, Integer.MAX_VALUE}) {
            as(x, c, 0, DryLand.UNKNOWN, 0);
            as(x, c, 3, DryLand.UNKNOWN, 0);
        }
        for (int kind : new int[] {-1, 3, Integer.MIN_VALUE, Integer.MAX_VALUE}) {
            as(x, 0, kind, DryLand.OUTSIDE, 0);
            as(x, 1, kind, DryLand.OUTSIDE, 0);
        }
        as(x, 1, 1, -12, 2);
        as(x, 2, 1, DryLand.UNKNOWN, 0);
        as(x, 1, 2, -12, 2);
        as(x, 1, 3, DryLand.OUTSIDE, 0);
    }

    private static void asKinds() {
        Check.says(51, "(each is STUFF, too; a MARKED one is SPIRIT)");
        DryLand x = new DryLand();
        for (int c = 0; c < 12; c++) {
            x.cask(c % 3, 0);
            for (int kind = 0; kind <= 2; kind++) {
                boolean is = kind <= c % 3;
                as(x, c, kind, is ? 1 : -12, is ? 0 : 2);
            }
        }
        Check.due("no body has begun", x.trace(), 0);
    }

    private static void as(DryLand x, int c, int kind, int want, int fault) {
        Check.due("as " + c + " " + kind, x.as(c, kind), want);
        Check.due("fault", x.fault(), fault);
    }

    private static void traceWraps() {
        Check.says(52, "an int that wraps, 0 at first, becomes 31 times it and the number");
        DryLand x = new DryLand();
        x.cask(0, 0);
        x.cask(2, 0);
        Check.due("at first", x.trace(), 0);
        long exact = 0;
        for (int k = 1; k <= 6; k++) {
            x.tell(0);
            exact = 31 * exact + 1;
            Check.due("bodies " + k, x.trace(), exact);
        }
        // 31 times 29583456 and 1 is 917087137; the next is above what an int holds: 28429701248 wraps.
        x.tell(0);
        Check.due("the last that fits", x.trace(), 917087137);
        x.tell(0);
        Check.due("wrapped", x.trace(), 28429701248L - 7 * (1L << 32));
        Check.due("and it was below 0", x.trace() < 0 ? 1 : 0, 1);
        x.hang(1);
        Check.due("wrapped again", x.trace(), (int) (31L * (28429701248L - 7 * (1L << 32)) + 5));
        Check.due("asking leaves it", x.trace(), (int) (31L * (28429701248L - 7 * (1L << 32)) + 5));
    }
}
