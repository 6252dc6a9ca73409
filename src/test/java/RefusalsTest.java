import java.util.List;
import java.util.function.Supplier;

/**
 * The document's words on refusals: "they change nothing (but fault(), of a call that names FAULTS)", and of
 * faults: "and changes nothing; fault() tells it". Each call that is refused is made on a land that has a twin;
 * all that can be seen of both is the same afterwards.
 */
public final class RefusalsTest {
    private static final int UNKNOWN = DryLand.UNKNOWN, OUTSIDE = DryLand.OUTSIDE, STATE = DryLand.STATE,
        FULL = DryLand.FULL;
    private static final long LOST = DryLand.LOST;

    /** Calls that name no faults leave fault() as it was. */
    private static final int KEPT = -1;

    private static Supplier<DryLand> land = DryLand::new;

    private interface Call {
        long on(DryLand x);
    }

    public static void main(String[] args) {
        land = Lands::some;
        texts();
        lines();
        steps();
        slips();
        agents();
        trucks();
        worlds();
        casks();
        papers();
        courts();
        sea();
        sheets();
        land = Lands::full;
        fullLand();
        land = DryLand::new;
        emptyLand();
        Check.end();
    }

    /** The answer that is due, what fault() tells then, and the call. */
    private static void refused(long want, int fault, Call call) {
        for (int part = 1; part <= Lands.PARTS; part++) {
            DryLand x = land.get();
            DryLand twin = land.get();
            // A fault ahead of it, so that it is seen whether fault() is set anew.
            x.put(0, -1, 0);
            twin.put(0, -1, 0);
            Check.due("the call", call.on(x), want);
            Check.due("fault", x.fault(), fault == KEPT ? twin.fault() : fault);
            List<Long> is = Lands.seen(x, part);
            List<Long> was = Lands.seen(twin, part);
            Check.holds("nothing is changed of part " + part + ": " + is + " was " + was, is.equals(was));
        }
    }

    private static void refused(long want, Call call) {
        refused(want, KEPT, call);
    }

    private static void texts() {
        Check.says(2, "they change nothing (but fault(), of a call that names FAULTS)");
        refused(UNKNOWN, 0, x -> x.text(-1, 0, 0, 12));
        refused(UNKNOWN, 0, x -> x.text(4, 0, 0, 12));
        refused(OUTSIDE, 0, x -> x.text(0, -1, 0, 12));
        refused(OUTSIDE, 0, x -> x.text(0, 3, 0, 12));
        refused(-12, 2, x -> x.text(0, 1, 0, 12));
        refused(-11, 1, x -> x.text(3, 0, 0, 12));
        refused(-14, 4, x -> x.text(0, 0, 0, -1));
        refused(-13, 3, x -> x.text(0, 0, 0, 13));
        refused(-13, 3, x -> x.text(0, 0, -1, 12));
        refused(-100, 0, x -> x.text(0, 0, 1, 11));
        refused(-110, 0, x -> x.text(0, 0, 0, 10));
    }

    private static void lines() {
        Check.says(3, "they change nothing");
        refused(UNKNOWN, x -> x.strike(-1, 0));
        refused(UNKNOWN, x -> x.strike(3, 0));
        refused(OUTSIDE, x -> x.strike(0, -1));
        refused(OUTSIDE, x -> x.strike(1, 100));
        Check.says(4, "they change nothing");
        refused(UNKNOWN, x -> x.line(-1, 0));
        refused(UNKNOWN, x -> x.line(3, 0));
        refused(OUTSIDE, x -> x.line(0, -1));
        refused(OUTSIDE, x -> x.line(0, 7));
        Check.says(5, "they change nothing");
        refused(OUTSIDE, x -> x.stops(4, 0, 0, 0, 0));
        refused(OUTSIDE, x -> x.stops(0, 0, 0, 0, 100));
        Check.says(6, "they change nothing");
        refused(OUTSIDE, x -> x.why(0, 4, 0, 0, 0));
        refused(OUTSIDE, x -> x.why(0, 0, 0, 0, -1));
        Check.says(7, "they change nothing");
        refused(OUTSIDE, x -> x.force(-1));
        refused(OUTSIDE, x -> x.force(100));
    }

    private static void steps() {
        Check.says(8, "they change nothing");
        refused(OUTSIDE, x -> x.step(-1, 11, 0, 0, 0, 0));
        refused(OUTSIDE, x -> x.step(0, 12, 0, 0, 0, 0));
        refused(OUTSIDE, x -> x.step(11, 11, 0, 0, 0, 0));
        refused(OUTSIDE, x -> x.step(0, 11, 4, 0, 0, 0));
        refused(OUTSIDE, x -> x.step(0, 11, 0, -1, 0, 0));
        refused(OUTSIDE, x -> x.step(0, 11, 0, 0, 100, 0));
        refused(OUTSIDE, x -> x.step(0, 11, 0, 0, 0, 5));
        Check.says(9, "they change nothing");
        refused(OUTSIDE, x -> x.least(-1, -1));
        refused(OUTSIDE, x -> x.least(100, 0));
        refused(UNKNOWN, x -> x.least(0, -2));
        refused(UNKNOWN, x -> x.least(0, 1));
        Check.says(10, "they change nothing (but fault(), of a call that names FAULTS)");
        refused(UNKNOWN, 0, x -> x.more(0, 4, 0, 0, 12));
        refused(OUTSIDE, 0, x -> x.more(0, 0, 3, 0, 12));
        refused(OUTSIDE, 0, x -> x.more(100, 0, 0, 0, 12));
        refused(-12, 2, x -> x.more(0, 0, 1, 0, 12));
        refused(-11, 1, x -> x.more(0, 3, 0, 0, 12));
        refused(-14, 4, x -> x.more(0, 0, 0, 0, -1));
        refused(-13, 3, x -> x.more(0, 0, 0, 0, 13));
        refused(-100, 0, x -> x.more(0, 0, 0, 1, 11));
        // No refusal, but nothing is put by it.
        refused(0, 0, x -> x.more(5, 0, 0, 0, 12));
    }

    private static void slips() {
        Check.says(11, "they change nothing");
        refused(OUTSIDE, x -> x.doctor(0));
        refused(OUTSIDE, x -> x.doctor(25));
        Check.says(12, "they change nothing");
        refused(UNKNOWN, x -> x.slip(-1, 0, 0));
        refused(UNKNOWN, x -> x.slip(2, 0, 0));
        refused(OUTSIDE, x -> x.slip(0, -1, 3));
        refused(OUTSIDE, x -> x.slip(0, 1000, 3));
        refused(OUTSIDE, x -> x.slip(0, 0, -1));
        refused(OUTSIDE, x -> x.slip(0, 0, 100));
        Check.says(14, "they change nothing");
        refused(UNKNOWN, x -> x.tooMany(-1, -1));
        refused(UNKNOWN, x -> x.tooMany(2, -1));
        refused(UNKNOWN, x -> x.tooMany(0, -2));
        refused(UNKNOWN, x -> x.tooMany(0, 1));
    }

    private static void agents() {
        Check.says(15, "they change nothing (but fault(), of a call that names FAULTS)");
        refused(UNKNOWN, 0, x -> x.agent(4, 2, 0, 1));
        refused(OUTSIDE, 0, x -> x.agent(2, 3, 0, 1));
        refused(-12, 2, x -> x.agent(2, 1, 0, 1));
        refused(-11, 1, x -> x.agent(3, 2, 0, 1));
        refused(-14, 4, x -> x.agent(2, 2, 0, -1));
        refused(-13, 3, x -> x.agent(2, 2, 0, 5));
        refused(OUTSIDE, 0, x -> x.agent(2, 2, 0, 0));
        refused(OUTSIDE, 0, x -> x.agent(2, 2, 0, 4));
    }

    private static void trucks() {
        Check.says(16, "they change nothing (but fault(), of a call that names FAULTS)");
        refused(UNKNOWN, 0, x -> x.truck(0, 0, -1, 2, 0, 1));
        refused(OUTSIDE, 0, x -> x.truck(0, 0, 2, -1, 0, 1));
        refused(OUTSIDE, 0, x -> x.truck(-1, 0, 2, 2, 0, 1));
        refused(OUTSIDE, 0, x -> x.truck(12, 0, 2, 2, 0, 1));
        refused(OUTSIDE, 0, x -> x.truck(0, -2, 2, 2, 0, 1));
        refused(OUTSIDE, 0, x -> x.truck(0, 2, 2, 2, 0, 1));
        refused(-12, 2, x -> x.truck(0, 0, 2, 0, 0, 1));
        refused(-11, 1, x -> x.truck(0, 0, 3, 2, 0, 1));
        refused(-14, 4, x -> x.truck(0, 0, 2, 2, 0, -1));
        refused(-13, 3, x -> x.truck(0, 0, 2, 2, 4, 1));
        refused(OUTSIDE, 0, x -> x.truck(0, 0, 2, 2, 4, 0));
        refused(OUTSIDE, 0, x -> x.truck(0, 0, 2, 2, 3, 1));
    }

    private static void worlds() {
        Check.says(17, "they change nothing");
        refused(UNKNOWN, x -> x.came(-1, 0));
        refused(UNKNOWN, x -> x.came(3, 0));
        refused(OUTSIDE, x -> x.came(0, -2));
        refused(OUTSIDE, x -> x.came(0, 2));
        Check.says(18, "they change nothing");
        refused(UNKNOWN, x -> x.meets(-1));
        refused(UNKNOWN, x -> x.meets(3));
        Check.says(20, "they change nothing");
        refused(OUTSIDE, x -> x.sure(-1, 0));
        refused(OUTSIDE, x -> x.sure(2, 0));
        refused(UNKNOWN, x -> x.sure(0, 3));
        refused(UNKNOWN, x -> x.sure(1, 3));
    }

    private static void casks() {
        Check.says(21, "they change nothing");
        refused(OUTSIDE, x -> x.cask(-1, 0));
        refused(OUTSIDE, x -> x.cask(3, 0));
        refused(OUTSIDE, x -> x.cask(0, -1));
        refused(OUTSIDE, x -> x.cask(0, 100));
        Check.says(23, "they change nothing");
        refused(UNKNOWN, x -> x.drank(3, 0, 0));
        refused(UNKNOWN, x -> x.drank(0, 3, 0));
        refused(OUTSIDE, x -> x.drank(0, 0, -1));
        refused(OUTSIDE, x -> x.drank(0, 0, 100));
        Check.says(24, "they change nothing");
        refused(UNKNOWN, x -> x.fell(-1, true, 0));
        refused(UNKNOWN, x -> x.fell(3, true, 0));
        refused(OUTSIDE, x -> x.fell(0, false, -1));
        refused(OUTSIDE, x -> x.fell(0, false, 100));
        Check.says(25, "they change nothing");
        refused(OUTSIDE, x -> x.cut(100, 0));
        refused(OUTSIDE, x -> x.cut(0, 6));
        Check.says(26, "they change nothing");
        refused(UNKNOWN, x -> x.knew(3));
        Check.says(49, "they change nothing");
        refused(UNKNOWN, x -> x.tell(-1));
        refused(UNKNOWN, x -> x.tell(3));
        Check.says(50, "they change nothing");
        refused(UNKNOWN, x -> x.hang(-1));
        refused(UNKNOWN, x -> x.hang(3));
        Check.says(51, "they change nothing (but fault(), of a call that names FAULTS)");
        refused(UNKNOWN, 0, x -> x.as(3, 0));
        refused(OUTSIDE, 0, x -> x.as(0, 3));
        refused(-12, 2, x -> x.as(0, 1));
        refused(-12, 2, x -> x.as(1, 2));
    }

    private static void papers() {
        Check.says(28, "they change nothing");
        refused(OUTSIDE, x -> x.paper(0));
        refused(OUTSIDE, x -> x.paper(1 << 4));
        refused(OUTSIDE, x -> x.paper(1 << 4 | 1));
        refused(OUTSIDE, x -> x.paper(-1));
        Check.says(29, "they change nothing");
        refused(UNKNOWN, x -> x.met(-1, true));
        refused(UNKNOWN, x -> x.met(4, true));
        refused(STATE, x -> x.met(2, true));
        refused(STATE, x -> x.met(3, false));
        Check.says(31, "they change nothing");
        refused(UNKNOWN, x -> x.saved(4));
        refused(STATE, x -> x.saved(1));
        refused(STATE, x -> x.saved(2));
    }

    private static void courts() {
        Check.says(33, "they change nothing");
        refused(OUTSIDE, x -> x.court(0, 300));
        refused(OUTSIDE, x -> x.court(5, 300));
        refused(OUTSIDE, x -> x.court(1, 0));
        refused(OUTSIDE, x -> x.court(1, 601));
        Check.says(34, "they change nothing");
        refused(OUTSIDE, x -> x.sue(0, 5, 9));
        refused(OUTSIDE, x -> x.sue(601, 5, 9));
        refused(OUTSIDE, x -> x.sue(1, 100, 9));
        refused(OUTSIDE, x -> x.sue(1, 5, 10));
        Check.says(35, "they change nothing");
        refused(UNKNOWN, x -> x.heard(4, 0));
        refused(OUTSIDE, x -> x.heard(0, 5));
        Check.says(36, "they change nothing");
        refused(OUTSIDE, x -> x.waiting(100));
        Check.says(37, "they change nothing");
        refused(OUTSIDE, x -> x.juror(-1, 5));
        refused(OUTSIDE, x -> x.juror(6, 5));
        refused(OUTSIDE, x -> x.juror(0, 0));
        refused(OUTSIDE, x -> x.juror(0, 21));
        Check.says(39, "they change nothing");
        refused(LOST, x -> x.jury(3, 0));
        refused(LOST, x -> x.jury(0, 2));
    }

    private static void sea() {
        Check.says(40, "they change nothing");
        refused(OUTSIDE, x -> x.miles(0));
        refused(OUTSIDE, x -> x.miles(31));
        Check.says(41, "they change nothing");
        refused(OUTSIDE, x -> x.chase(31, 0, 0, 0, 0, 0, 1));
        refused(OUTSIDE, x -> x.chase(0, 0, 0, 0, 0, 0, 6));
        Check.says(42, "they change nothing");
        refused(OUTSIDE, x -> x.town(100, 0));
        refused(OUTSIDE, x -> x.town(0, 1000));
        Check.says(43, "they change nothing");
        refused(UNKNOWN, x -> x.week(2, 0));
        refused(OUTSIDE, x -> x.week(0, -1));
        refused(OUTSIDE, x -> x.week(0, 1000));
        Check.says(44, "they change nothing");
        refused(UNKNOWN, x -> x.ofTown(2, 0));
        refused(OUTSIDE, x -> x.ofTown(0, 5));
    }

    private static void sheets() {
        Check.says(45, "they change nothing (but fault(), of a call that names FAULTS)");
        refused(UNKNOWN, 0, x -> x.sheet(-1, 0, 1));
        refused(UNKNOWN, 0, x -> x.sheet(4, 0, 1));
        refused(OUTSIDE, 0, x -> x.sheet(0, 3, 1));
        refused(OUTSIDE, 0, x -> x.sheet(1, -1, 1));
        refused(OUTSIDE, 0, x -> x.sheet(2, 0, 61));
        refused(-14, 4, x -> x.sheet(0, 1, -1));
        Check.says(46, "they change nothing");
        refused(UNKNOWN, x -> x.lose(-1));
        refused(UNKNOWN, x -> x.lose(4));
        Check.says(47, "they change nothing (but fault(), of a call that names FAULTS)");
        refused(UNKNOWN, 0, x -> x.put(4, 0, 9));
        refused(-11, 1, x -> x.put(3, 0, 9));
        refused(-13, 3, x -> x.put(0, 12, 9));
        refused(-13, 3, x -> x.put(0, -1, 9));
        Check.says(48, "they change nothing (but fault(), of a call that names FAULTS)");
        refused(LOST, 0, x -> x.cell(4, 0, 0));
        refused(LOST, 0, x -> x.cell(0, 0, 3));
        refused(LOST, 2, x -> x.cell(0, 0, 1));
        refused(LOST, 1, x -> x.cell(3, 0, 0));
        refused(LOST, 3, x -> x.cell(0, 12, 0));
        Check.says(54, "they change nothing");
        refused(OUTSIDE, x -> x.many(-1));
        refused(OUTSIDE, x -> x.many(12));
    }

    private static void fullLand() {
        Check.says(2, "FULL; they change nothing");
        refused(FULL, 0, x -> x.text(0, 0, 0, 12));
        Check.says(8, "FULL; they change nothing");
        refused(FULL, x -> x.step(0, 11, 3, 3, 0, 0));
        Check.says(11, "FULL; they change nothing");
        refused(FULL, x -> x.doctor(24));
        Check.says(12, "FULL; they change nothing");
        refused(FULL, x -> x.slip(5, 999, 3));
        Check.says(15, "FULL; they change nothing");
        refused(FULL, 0, x -> x.agent(2, 2, 0, 3));
        Check.says(16, "FULL; they change nothing");
        refused(FULL, 0, x -> x.truck(11, 0, 2, 2, 0, 3));
        Check.says(21, "FULL; they change nothing");
        refused(FULL, x -> x.cask(2, 99));
        Check.says(22, "FULL; they change nothing");
        refused(FULL, DryLand::person);
        Check.says(23, "FULL; they change nothing");
        refused(FULL, x -> x.drank(11, 11, 0));
        Check.says(24, "FULL; they change nothing");
        refused(FULL, x -> x.fell(11, false, 0));
        Check.says(27, "FULL; they change nothing");
        refused(FULL, x -> x.raid(true));
        refused(FULL, x -> x.raid(false));
        Check.says(28, "FULL; they change nothing");
        refused(FULL, x -> x.paper(1));
        Check.says(34, "FULL; they change nothing");
        refused(FULL, x -> x.sue(1, 0, 9));
        Check.says(37, "FULL; they change nothing");
        refused(FULL, x -> x.juror(1, 2));
        Check.says(42, "FULL; they change nothing");
        refused(FULL, x -> x.town(99, 999));
    }

    private static void emptyLand() {
        Check.says(1, "Nothing is told // they change nothing");
        refused(UNKNOWN, x -> x.strike(0, 0));
        refused(UNKNOWN, x -> x.slip(0, 0, 0));
        refused(UNKNOWN, x -> x.came(0, 1));
        refused(UNKNOWN, x -> x.drank(0, 0, 0));
        refused(UNKNOWN, x -> x.fell(0, true, 0));
        refused(OUTSIDE, x -> x.paper(1));
        refused(UNKNOWN, x -> x.met(0, true));
        refused(UNKNOWN, x -> x.week(0, 0));
        refused(UNKNOWN, x -> x.tell(0));
        refused(UNKNOWN, x -> x.hang(0));
        refused(UNKNOWN, 0, x -> x.as(0, 0));
        refused(-11, 1, x -> x.text(0, 0, 0, 0));
        refused(-11, 1, x -> x.put(0, 0, 0));
        refused(LOST, 1, x -> x.cell(0, 0, 0));
        refused(LOST, x -> x.jury(0, 0));
    }
}
