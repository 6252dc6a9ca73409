import java.util.Arrays;

/**
 * A dry land: an act's lines, ways to a table, doctors' slips, agents and trucks, casks, papers,
 * courts, ships, towns and sheets. The public methods look at what they are given and refuse what
 * is not as told; the classes inside hold one part each and are only asked what makes sense.
 */
public final class DryLand {
    public static final int UNKNOWN = -1, OUTSIDE = -2, STATE = -3, FULL = -4, NONE = -9;
    public static final long LOST = Long.MIN_VALUE;

    private static final int DAYS = 100;
    private static final int FIRST_FAULT = -100;
    private static final int FAULT = -10;
    private static final int NULL = 1, CAST = 2, INDEX = 3, SIZE = 4;

    private final Sheets sheets = new Sheets();
    private final Reader reader = new Reader();
    private final Act act = new Act();
    private final Ways ways = new Ways();
    private final Slips slips = new Slips();
    private final Nights nights = new Nights();
    private final Casks casks = new Casks();
    private final Papers papers = new Papers();
    private final Courts courts = new Courts();
    private final Towns towns = new Towns();
    private int milesNow = 3;

    public DryLand() {
    }

    // ---- 1 lines

    public int text(int sheet, int lane, int i, int n) {
        int refused = sheets.take(sheet, lane, true, i, n);
        if (refused != 0) {
            return refused;
        }
        Line read = reader.readLine(sheets.taken, n);
        return read == null ? FIRST_FAULT - reader.place : act.addLine(read);
    }

    public int strike(int l, int day) {
        Line told = act.lineAt(l);
        if (told == null) {
            return UNKNOWN;
        }
        if (!isDay(day)) {
            return OUTSIDE;
        }
        int before = told.struck;
        told.struck = day;
        return before;
    }

    public int line(int l, int what) {
        Line told = act.lineAt(l);
        if (told == null) {
            return UNKNOWN;
        }
        return switch (what) {
            case 0 -> told.verb;
            case 1 -> told.kind;
            case 2 -> told.above;
            case 3 -> told.from;
            case 4 -> told.to;
            case 5 -> told.letters;
            case 6 -> told.struck;
            default -> OUTSIDE;
        };
    }

    public int stops(int verb, int kind, int strength, int who, int day) {
        int first = why(verb, kind, strength, who, day);
        if (first == OUTSIDE) {
            return OUTSIDE;
        }
        return first == NONE ? 0 : 1;
    }

    public int why(int verb, int kind, int strength, int who, int day) {
        if (!isDeed(verb, kind, strength, who) || !isDay(day)) {
            return OUTSIDE;
        }
        return act.firstStop(verb, kind, strength, who, day);
    }

    public int force(int day) {
        return isDay(day) ? act.inForce(day) : OUTSIDE;
    }

    // ---- 2 steps

    public int step(int from, int to, int verb, int kind, int strength, int who) {
        if (!within(from, 0, Ways.TABLE) || !within(to, 0, Ways.TABLE) || from == to
                || !isDeed(verb, kind, strength, who)) {
            return OUTSIDE;
        }
        return ways.addStep(from, to, verb, kind, strength, who);
    }

    public int least(int day, int i) {
        if (!isDay(day)) {
            return OUTSIDE;
        }
        // Below -1 nothing is asked for that NONE could answer, so it is refused with or without a way.
        if (i < -1) {
            return UNKNOWN;
        }
        int length = ways.findLeast(act, day);
        if (length == NONE || i == -1) {
            return length;
        }
        return within(i, 0, length - 1) ? ways.row[i] : UNKNOWN;
    }

    public int more(int day, int sheet, int lane, int i, int n) {
        int refused = sheets.take(sheet, lane, isDay(day), i, n);
        if (refused != 0) {
            return refused;
        }
        Line read = reader.readLine(sheets.taken, n);
        return read == null ? FIRST_FAULT - reader.place : ways.wouldStop(act, read, day);
    }

    // ---- 3 slips

    public int doctor(int hours) {
        return within(hours, 1, 24) ? slips.addDoctor(hours) : OUTSIDE;
    }

    public int slip(int doctor, int number, int day) {
        if (!slips.hasDoctor(doctor)) {
            return UNKNOWN;
        }
        if (!within(number, 0, 999) || !isDay(day)) {
            return OUTSIDE;
        }
        return slips.addSlip(doctor, number, day);
    }

    public int twice() {
        return slips.countTwice();
    }

    public int tooMany(int doctor, int i) {
        return slips.hasDoctor(doctor) ? slips.tooManyOf(doctor, i) : UNKNOWN;
    }

    // ---- 4 nights

    public int agent(int sheet, int lane, int i, int n) {
        int refused = sheets.take(sheet, lane, true, i, n);
        if (refused != 0) {
            return refused;
        }
        return Nights.arePlaces(sheets.taken, n) ? nights.addAgent(sheets.taken, n) : OUTSIDE;
    }

    public int truck(int hour, int came, int sheet, int lane, int i, int n) {
        boolean othersFit = within(hour, 0, 11) && within(came, -1, 1);
        int refused = sheets.take(sheet, lane, othersFit, i, n);
        if (refused != 0) {
            return refused;
        }
        return Nights.arePlaces(sheets.taken, n) ? nights.addTruck(hour, came, sheets.taken, n) : OUTSIDE;
    }

    public int came(int truck, int is) {
        if (!nights.hasTruck(truck)) {
            return UNKNOWN;
        }
        return within(is, -1, 1) ? nights.tellTruck(truck, is) : OUTSIDE;
    }

    public int meets(int truck) {
        return nights.hasTruck(truck) ? nights.meetings[truck] : UNKNOWN;
    }

    public int worlds() {
        return nights.worldsWith(0);
    }

    public int sure(int who, int n) {
        if (!within(who, 0, 1)) {
            return OUTSIDE;
        }
        if (who == 0) {
            return nights.hasAgent(n) ? nights.sureOf(1 << n) : UNKNOWN;
        }
        return nights.hasTruck(n) ? nights.sureOf(nights.meetings[n]) : UNKNOWN;
    }

    // ---- 5 casks

    public int cask(int kind, int strength) {
        return within(kind, 0, 2) && within(strength, 0, 99) ? casks.addCask(kind, strength) : OUTSIDE;
    }

    public int person() {
        return casks.addPerson();
    }

    public int drank(int person, int cask, int known) {
        if (!casks.hasPerson(person) || !casks.hasCask(cask)) {
            return UNKNOWN;
        }
        return isDay(known) ? casks.addFact(person, cask, 0, known) : OUTSIDE;
    }

    public int fell(int person, boolean ill, int known) {
        if (!casks.hasPerson(person)) {
            return UNKNOWN;
        }
        int health = ill ? Casks.ILL : Casks.WELL;
        return isDay(known) ? casks.addFact(person, NONE, health, known) : OUTSIDE;
    }

    public int cut(int day, int what) {
        if (!isDay(day) || !within(what, 0, 5)) {
            return OUTSIDE;
        }
        casks.learn(day);
        return switch (what) {
            case 0 -> casks.countCutSets();
            case 1 -> casks.fewest();
            case 2 -> casks.inAll();
            case 3 -> casks.inSome();
            case 4 -> casks.personsWho(Casks.ILL);
            default -> casks.personsWho(Casks.WELL);
        };
    }

    public int knew(int cask) {
        return casks.hasCask(cask) ? casks.firstDayKnown(cask) : UNKNOWN;
    }

    // ---- 6 papers

    public int raid(boolean met) {
        return papers.addPaper(Papers.RAID, met);
    }

    public int paper(int by) {
        return papers.areThere(by) ? papers.addPaper(by, false) : OUTSIDE;
    }

    public int met(int p, boolean is) {
        if (!papers.hasPaper(p)) {
            return UNKNOWN;
        }
        return papers.isRaid(p) ? papers.tellRaid(p, is) : STATE;
    }

    public int voids() {
        return papers.voidsIf(NONE);
    }

    public int saved(int p) {
        if (!papers.hasPaper(p)) {
            return UNKNOWN;
        }
        return papers.isUnmetRaid(p) ? papers.savedBy(p) : STATE;
    }

    public int worst() {
        return papers.worstRaid();
    }

    // ---- 7 courts

    public int court(int judges, int minutes) {
        if (!within(judges, 1, 4) || !within(minutes, 1, 600)) {
            return OUTSIDE;
        }
        return courts.setCourt(judges, minutes);
    }

    public int sue(int minutes, int day, int rank) {
        if (!within(minutes, 1, 600) || !isDay(day) || !within(rank, 0, 9)) {
            return OUTSIDE;
        }
        return courts.addCase(minutes, day, rank);
    }

    public int heard(int c, int what) {
        if (!courts.hasCase(c)) {
            return UNKNOWN;
        }
        return switch (what) {
            case 0 -> courts.lengths[c];
            case 1 -> courts.comes[c];
            case 2 -> courts.ranks[c];
            case 3 -> courts.heardOn[c];
            case 4 -> courts.heardBy[c];
            default -> OUTSIDE;
        };
    }

    public int waiting(int day) {
        return isDay(day) ? courts.countWaiting(day) : OUTSIDE;
    }

    public int juror(int p, int q) {
        return within(q, 1, 20) && within(p, 0, q) ? courts.addJuror(p, q) : OUTSIDE;
    }

    public int dismiss() {
        return courts.dismissAll();
    }

    public long jury(int what, int which) {
        if (!within(what, 0, 2) || !within(which, 0, 1) || courts.jurors == 0) {
            return LOST;
        }
        return courts.share(what, which);
    }

    // ---- 8 sea, towns

    public int miles(int m) {
        if (!within(m, 1, 30)) {
            return OUTSIDE;
        }
        int before = milesNow;
        milesNow = m;
        return before;
    }

    public int chase(int x, int y, int dx, int dy, int bx, int by, int v) {
        if (!isSea(x, y) || !isSea(bx, by) || !within(dx, -3, 3) || !within(dy, -3, 3) || !within(v, 1, 5)) {
            return OUTSIDE;
        }
        for (int hour = 0; hour <= 23; hour++) {
            int shipX = x + hour * dx;
            int shipY = y + hour * dy;
            int reach = hour * v;
            if (isSea(shipX, shipY) && shipX < milesNow
                    && Math.abs(shipX - bx) <= reach && Math.abs(shipY - by) <= reach) {
                return hour;
            }
        }
        return NONE;
    }

    public int town(int habit, int stock) {
        return within(habit, 0, 99) && within(stock, 0, 999) ? towns.addTown(habit, stock) : OUTSIDE;
    }

    public int week(int t, int comes) {
        if (!towns.hasTown(t)) {
            return UNKNOWN;
        }
        return within(comes, 0, 999) ? towns.passWeek(t, comes) : OUTSIDE;
    }

    public int ofTown(int t, int what) {
        if (!towns.hasTown(t)) {
            return UNKNOWN;
        }
        return switch (what) {
            case 0 -> towns.habits[t];
            case 1 -> towns.stocks[t];
            case 2 -> towns.prices[t];
            case 3 -> towns.weeks[t];
            case 4 -> towns.drunk[t];
            default -> OUTSIDE;
        };
    }

    // ---- 9 sheets, parts

    public int sheet(int k, int lane, int n) {
        return sheets.renew(k, lane, n);
    }

    public int lose(int k) {
        return Sheets.isSheet(k) ? sheets.drop(k) : UNKNOWN;
    }

    public int put(int k, int i, int v) {
        return sheets.write(k, i, v);
    }

    public long cell(int k, int i, int lane) {
        // One cell taken from i on comes to the same faults as the cell itself.
        return sheets.take(k, lane, true, i, 1) == 0 ? sheets.taken[0] : LOST;
    }

    public int tell(int c) {
        return casks.hasCask(c) ? casks.tellOf(c) : UNKNOWN;
    }

    public int hang(int c) {
        return casks.hasCask(c) ? casks.hangOf(c) : UNKNOWN;
    }

    public int as(int c, int kind) {
        sheets.fault = 0;
        if (!casks.hasCask(c)) {
            return UNKNOWN;
        }
        if (!within(kind, 0, 2)) {
            return OUTSIDE;
        }
        return casks.kinds[c] >= kind ? 1 : sheets.fail(CAST);
    }

    public int trace() {
        return casks.trail;
    }

    public int fault() {
        return sheets.fault;
    }

    public int many(int what) {
        return switch (what) {
            case 0 -> act.count;
            case 1 -> ways.count;
            case 2 -> slips.count;
            case 3 -> nights.agents;
            case 4 -> nights.trucks;
            case 5 -> casks.count;
            case 6 -> casks.persons;
            case 7 -> casks.facts;
            case 8 -> papers.count;
            case 9 -> courts.cases;
            case 10 -> towns.count;
            case 11 -> courts.jurors;
            default -> OUTSIDE;
        };
    }

    private static boolean within(int number, int low, int high) {
        return number >= low && number <= high;
    }

    private static boolean isDay(int day) {
        return within(day, 0, DAYS - 1);
    }

    private static boolean isDeed(int verb, int kind, int strength, int who) {
        return within(verb, 0, 3) && within(kind, 0, 3) && within(strength, 0, 99) && within(who, 0, 4);
    }

    private static boolean isSea(int x, int y) {
        return within(x, 0, 30) && within(y, 0, 30);
    }

    /** The SHEETS and the FAULT of the latest call that names one. */
    private static final class Sheets {
        static final int MOST = 4;
        static final int LONGEST = 60;
        static final int NOTHING = -1;

        // Every row is as long as can be from the start, so that no call makes a new one.
        final int[][] rows = new int[MOST][LONGEST];
        final int[] lanes = {NOTHING, NOTHING, NOTHING, NOTHING};
        final int[] lengths = new int[MOST];
        final int[] taken = new int[LONGEST];
        int fault;

        static boolean isSheet(int k) {
            return within(k, 0, MOST - 1);
        }

        static boolean isLane(int lane) {
            return within(lane, 0, 2);
        }

        int fail(int which) {
            fault = which;
            return FAULT - which;
        }

        int renew(int k, int lane, int n) {
            fault = 0;
            if (!isSheet(k)) {
                return UNKNOWN;
            }
            if (!isLane(lane) || n > LONGEST) {
                return OUTSIDE;
            }
            if (n < 0) {
                return fail(SIZE);
            }
            lanes[k] = lane;
            lengths[k] = n;
            Arrays.fill(rows[k], 0);
            return 1;
        }

        int drop(int k) {
            boolean had = lanes[k] != NOTHING;
            lanes[k] = NOTHING;
            return had ? 1 : 0;
        }

        int write(int k, int i, int v) {
            fault = 0;
            if (!isSheet(k)) {
                return UNKNOWN;
            }
            if (lanes[k] == NOTHING) {
                return fail(NULL);
            }
            if (!within(i, 0, lengths[k] - 1)) {
                return fail(INDEX);
            }
            rows[k][i] = cutToLane(lanes[k], v);
            return 1;
        }

        static int cutToLane(int lane, int v) {
            return switch (lane) {
                case 0 -> (byte) v;
                case 1 -> (short) v;
                default -> v;
            };
        }

        /**
         * Copies n cells from i on to taken: 0, or what the call answers if it can't be. Whether the
         * call's other numbers fit is told, as they are looked at ahead of the FAULTS.
         */
        int take(int k, int lane, boolean othersFit, int i, int n) {
            fault = 0;
            if (!isSheet(k)) {
                return UNKNOWN;
            }
            if (!isLane(lane) || !othersFit) {
                return OUTSIDE;
            }
            int which = faultOfTaking(k, lane, i, n);
            if (which != 0) {
                return fail(which);
            }
            System.arraycopy(rows[k], i, taken, 0, n);
            return 0;
        }

        int faultOfTaking(int k, int lane, int i, int n) {
            if (lanes[k] == NOTHING) {
                return NULL;
            }
            if (lanes[k] != lane) {
                return CAST;
            }
            if (n < 0) {
                return SIZE;
            }
            // Taking n off the length can't run over, as adding it to i could.
            return within(i, 0, lengths[k]) && i <= lengths[k] - n ? 0 : INDEX;
        }
    }

    /** A LINE of the act. */
    private static final class Line {
        static final int ANY_KIND = 4;

        int verb;
        int kind;
        int above = NONE;
        int from;
        int to;
        int letters;
        int struck = NONE;

        boolean isInForce(int day) {
            return within(day, from, to) && (struck == NONE || day < struck);
        }

        boolean halts(int itsVerb, int itsKind, int strength, int who, int day) {
            return isInForce(day) && verb == itsVerb && (kind == ANY_KIND || kind == itsKind)
                    && (above == NONE || strength > above) && (letters >> who & 1) == 0;
        }
    }

    /** Reads TEXTS code by code; place is where it stands, so the FIRST FAULT if it can't go on. */
    private static final class Reader {
        static final int[] VERBS = {109, 115, 99, 107};
        static final int[] KINDS = {48, 49, 50, 51, 42};
        static final int[] DIGITS = {48, 49, 50, 51, 52, 53, 54, 55, 56, 57};
        static final int[] LETTERS = {100, 112, 101, 118};
        static final int ABOVE = 62, AT = 64, TILL = 45, BUT = 33;

        final int[] codes = new int[Sheets.LONGEST];
        int length;
        int place;

        /** The LINE that the first n of a row tell; null if they are no TEXT. */
        Line readLine(int[] row, int n) {
            length = Math.min(n, Math.min(row.length, codes.length));
            System.arraycopy(row, 0, codes, 0, length);
            place = 0;
            Line read = new Line();
            boolean isText = readVerbAndKind(read) && readAbove(read) && readDays(read) && readLetters(read);
            return isText ? read : null;
        }

        boolean readVerbAndKind(Line read) {
            read.verb = oneOf(VERBS);
            if (read.verb == NONE) {
                return false;
            }
            read.kind = oneOf(KINDS);
            return read.kind != NONE;
        }

        boolean readAbove(Line read) {
            if (!sign(ABOVE)) {
                return true;
            }
            read.above = number();
            return read.above != NONE;
        }

        boolean readDays(Line read) {
            if (!sign(AT)) {
                return false;
            }
            read.from = number();
            if (read.from == NONE || !sign(TILL)) {
                return false;
            }
            read.to = number();
            return read.to != NONE;
        }

        boolean readLetters(Line read) {
            if (place == length) {
                return true;
            }
            if (!sign(BUT) || !readLetter(read)) {
                return false;
            }
            boolean goesOn = true;
            for (int k = 1; k < LETTERS.length && goesOn; k++) {
                goesOn = readLetter(read);
            }
            return place == length;
        }

        boolean readLetter(Line read) {
            int start = place;
            int letter = oneOf(LETTERS);
            if (letter == NONE) {
                return false;
            }
            if ((read.letters >> letter & 1) != 0) {
                place = start;
                return false;
            }
            read.letters |= 1 << letter;
            return true;
        }

        int number() {
            int first = oneOf(DIGITS);
            if (first == NONE) {
                return NONE;
            }
            int second = oneOf(DIGITS);
            return second == NONE ? first : 10 * first + second;
        }

        boolean sign(int code) {
            boolean isIt = place < length && codes[place] == code;
            if (isIt) {
                place++;
            }
            return isIt;
        }

        /** Which of the codes comes next (and goes past it); NONE. */
        int oneOf(int[] among) {
            for (int k = 0; k < among.length; k++) {
                if (sign(among[k])) {
                    return k;
                }
            }
            return NONE;
        }
    }

    /** The LINES. */
    private static final class Act {
        final Line[] lines = new Line[24];
        int count;

        int addLine(Line read) {
            if (count == lines.length) {
                return FULL;
            }
            lines[count] = read;
            count++;
            return count - 1;
        }

        Line lineAt(int l) {
            return within(l, 0, count - 1) ? lines[l] : null;
        }

        int firstStop(int verb, int kind, int strength, int who, int day) {
            for (int l = 0; l < count; l++) {
                Line told = lines[l];
                if (told != null && told.halts(verb, kind, strength, who, day)) {
                    return l;
                }
            }
            return NONE;
        }

        int inForce(int day) {
            int found = 0;
            for (int l = 0; l < count; l++) {
                Line told = lines[l];
                if (told != null && told.isInForce(day)) {
                    found++;
                }
            }
            return found;
        }
    }

    /** The STEPS between STAGES, and LEAST. */
    private static final class Ways {
        static final int VAT = 0;
        static final int TABLE = 11;
        static final int MOST = 24;
        static final int FAR = 1000;

        final int[] froms = new int[MOST];
        final int[] tos = new int[MOST];
        final int[] verbs = new int[MOST];
        final int[] kinds = new int[MOST];
        final int[] strengths = new int[MOST];
        final int[] whos = new int[MOST];
        final boolean[] open = new boolean[MOST];
        final int[] toTable = new int[TABLE + 1];
        // LEAST comes to no STAGE twice, so it has fewer STEPS than there are STAGES.
        final int[] row = new int[TABLE];
        int count;

        int addStep(int from, int to, int verb, int kind, int strength, int who) {
            if (count == MOST) {
                return FULL;
            }
            froms[count] = from;
            tos[count] = to;
            verbs[count] = verb;
            kinds[count] = kind;
            strengths[count] = strength;
            whos[count] = who;
            count++;
            return count - 1;
        }

        boolean isOpen(Act act, int s, int day) {
            return act.firstStop(verbs[s], kinds[s], strengths[s], whos[s], day) == NONE;
        }

        int wouldStop(Act act, Line read, int day) {
            int found = 0;
            for (int s = 0; s < count; s++) {
                if (isOpen(act, s, day) && read.halts(verbs[s], kinds[s], strengths[s], whos[s], day)) {
                    found++;
                }
            }
            return found;
        }

        /** How many STEPS LEAST has (row tells them), or NONE. */
        int findLeast(Act act, int day) {
            for (int s = 0; s < count; s++) {
                open[s] = isOpen(act, s, day);
            }
            measure();
            int length = toTable[VAT];
            if (length == FAR) {
                return NONE;
            }
            walk(length);
            return length;
        }

        /** How far each STAGE is from the table: no way is longer than there are STAGES. */
        void measure() {
            Arrays.fill(toTable, FAR);
            toTable[TABLE] = 0;
            for (int round = 0; round < TABLE; round++) {
                for (int s = 0; s < count; s++) {
                    if (open[s]) {
                        toTable[froms[s]] = Math.min(toTable[froms[s]], Math.min(FAR, toTable[tos[s]] + 1));
                    }
                }
            }
        }

        /** At each STAGE the first STEP that comes nearer makes the first row of all. */
        void walk(int length) {
            int stage = VAT;
            for (int k = 0; k < length && k < row.length; k++) {
                int s = firstNearer(stage);
                if (s == NONE) {
                    return;
                }
                row[k] = s;
                stage = tos[s];
            }
        }

        int firstNearer(int stage) {
            for (int s = 0; s < count; s++) {
                if (open[s] && froms[s] == stage && toTable[tos[s]] == toTable[stage] - 1) {
                    return s;
                }
            }
            return NONE;
        }
    }

    /** DOCTORS and their SLIPS. */
    private static final class Slips {
        static final int MOST = 40;
        static final int AN_HOUR = 4;

        final int[] hours = new int[6];
        final int[] by = new int[MOST];
        final int[] numbers = new int[MOST];
        final int[] days = new int[MOST];
        int doctors;
        int count;

        int addDoctor(int itsHours) {
            if (doctors == hours.length) {
                return FULL;
            }
            hours[doctors] = itsHours;
            doctors++;
            return doctors - 1;
        }

        boolean hasDoctor(int d) {
            return within(d, 0, doctors - 1);
        }

        int addSlip(int d, int number, int day) {
            if (count == MOST) {
                return FULL;
            }
            by[count] = d;
            numbers[count] = number;
            days[count] = day;
            count++;
            return count - 1;
        }

        int countTwice() {
            int found = 0;
            for (int s = 0; s < count; s++) {
                if (isUsedAhead(s)) {
                    found++;
                }
            }
            return found;
        }

        boolean isUsedAhead(int s) {
            for (int k = 0; k < s; k++) {
                if (numbers[k] == numbers[s]) {
                    return true;
                }
            }
            return false;
        }

        /** How many DAYS are TOO MANY (i -1), the i-th one; UNKNOWN. */
        int tooManyOf(int d, int i) {
            int found = 0;
            for (int day = 0; day < DAYS; day++) {
                if (countOn(d, day) > AN_HOUR * hours[d]) {
                    if (found == i) {
                        return day;
                    }
                    found++;
                }
            }
            return i == -1 ? found : UNKNOWN;
        }

        int countOn(int d, int day) {
            int found = 0;
            for (int s = 0; s < count; s++) {
                if (by[s] == d && days[s] == day) {
                    found++;
                }
            }
            return found;
        }
    }

    /** AGENTS, TRUCKS, and the WORLDS that they leave. */
    private static final class Nights {
        static final int MOST_AGENTS = 8;
        static final int MOST_TRUCKS = 12;
        static final int LONGEST = 12;
        static final int NOT_KNOWN = -1, STOPPED = 0, THROUGH = 1;

        final int[][] rounds = new int[MOST_AGENTS][LONGEST];
        final int[] roundLengths = new int[MOST_AGENTS];
        final int[][] roads = new int[MOST_TRUCKS][LONGEST];
        final int[] roadLengths = new int[MOST_TRUCKS];
        final int[] starts = new int[MOST_TRUCKS];
        final int[] told = new int[MOST_TRUCKS];
        // Who MEETS whom never changes, so it is looked at once, when the later one comes.
        final int[] meetings = new int[MOST_TRUCKS];
        int agents;
        int trucks;

        static boolean arePlaces(int[] row, int n) {
            if (!within(n, 1, LONGEST) || n > row.length) {
                return false;
            }
            for (int k = 0; k < n; k++) {
                if (!within(row[k], 0, 9)) {
                    return false;
                }
            }
            return true;
        }

        boolean hasAgent(int a) {
            return within(a, 0, agents - 1);
        }

        boolean hasTruck(int t) {
            return within(t, 0, trucks - 1);
        }

        int addAgent(int[] row, int n) {
            if (agents == MOST_AGENTS) {
                return FULL;
            }
            int a = agents;
            System.arraycopy(row, 0, rounds[a], 0, n);
            roundLengths[a] = n;
            for (int t = 0; t < trucks; t++) {
                noteMeeting(a, t);
            }
            agents++;
            return a;
        }

        int addTruck(int hour, int is, int[] row, int n) {
            if (trucks == MOST_TRUCKS) {
                return FULL;
            }
            int t = trucks;
            System.arraycopy(row, 0, roads[t], 0, n);
            roadLengths[t] = n;
            starts[t] = hour;
            told[t] = is;
            for (int a = 0; a < agents; a++) {
                noteMeeting(a, t);
            }
            trucks++;
            return t;
        }

        int tellTruck(int t, int is) {
            int before = told[t];
            told[t] = is;
            return before == NOT_KNOWN ? NONE : before;
        }

        void noteMeeting(int a, int t) {
            if (doMeet(a, t)) {
                meetings[t] |= 1 << a;
            }
        }

        boolean doMeet(int a, int t) {
            for (int k = 0; k < roadLengths[t]; k++) {
                int here = roads[t][k];
                int hour = starts[t] + k;
                if (agentAt(a, hour) == here) {
                    return true;
                }
                // Like PLACES are met at the hour itself, so a change of places is of unlike ones.
                if (k + 1 < roadLengths[t] && agentAt(a, hour) == roads[t][k + 1]
                        && agentAt(a, hour + 1) == here) {
                    return true;
                }
            }
            return false;
        }

        int agentAt(int a, int hour) {
            return roundLengths[a] == 0 ? NONE : rounds[a][hour % roundLengths[a]];
        }

        boolean isWorld(int bribed) {
            for (int t = 0; t < trucks; t++) {
                boolean allBribed = (meetings[t] & ~bribed) == 0;
                if (told[t] == THROUGH && !allBribed || told[t] == STOPPED && allBribed) {
                    return false;
                }
            }
            return true;
        }

        /** How many WORLDS there are in which all of a set are BRIBED. */
        int worldsWith(int set) {
            int found = 0;
            for (int bribed = 0; bribed < 1 << agents; bribed++) {
                if ((set & ~bribed) == 0 && isWorld(bribed)) {
                    found++;
                }
            }
            return found;
        }

        /** SURE that all of a set are BRIBED; NONE, if there is no WORLD. */
        int sureOf(int set) {
            int all = worldsWith(0);
            int some = worldsWith(set);
            if (all == 0) {
                return NONE;
            }
            if (some == 0) {
                return 0;
            }
            return some == all ? 2 : 1;
        }
    }

    /** CASKS, PERSONS, FACTS; and the bodies that tell of CASKS. */
    private static final class Casks {
        static final int MOST = 12;
        static final int MOST_FACTS = 60;
        static final int SPIRIT = 1, MARKED = 2;
        static final int ILL = 1, WELL = 2;
        static final int MARKED_HANG = 45;

        final int[] kinds = new int[MOST];
        final int[] strengths = new int[MOST];
        final int[] factPersons = new int[MOST_FACTS];
        final int[] factCasks = new int[MOST_FACTS];
        final int[] factHealths = new int[MOST_FACTS];
        final int[] factDays = new int[MOST_FACTS];
        // What is KNOWN on the DAY that was asked for last.
        final int[] drunkBy = new int[MOST];
        final int[] healths = new int[MOST];
        int harmless;
        int count;
        int persons;
        int facts;
        int trail;

        int addCask(int kind, int strength) {
            if (count == MOST) {
                return FULL;
            }
            kinds[count] = kind;
            strengths[count] = strength;
            count++;
            return count - 1;
        }

        int addPerson() {
            if (persons == MOST) {
                return FULL;
            }
            persons++;
            return persons - 1;
        }

        boolean hasCask(int c) {
            return within(c, 0, count - 1);
        }

        boolean hasPerson(int p) {
            return within(p, 0, persons - 1);
        }

        /** A FACT of a CASK, or (c is NONE) of how a PERSON was. */
        int addFact(int p, int c, int health, int day) {
            if (facts == MOST_FACTS) {
                return FULL;
            }
            factPersons[facts] = p;
            factCasks[facts] = c;
            factHealths[facts] = health;
            factDays[facts] = day;
            facts++;
            return facts - 1;
        }

        void learn(int day) {
            Arrays.fill(drunkBy, 0);
            Arrays.fill(healths, 0);
            for (int f = 0; f < facts; f++) {
                if (factDays[f] <= day) {
                    learnFact(f);
                }
            }
            harmless = 0;
            for (int p = 0; p < persons; p++) {
                if (healths[p] == WELL) {
                    harmless |= drunkBy[p];
                }
            }
        }

        void learnFact(int f) {
            int p = factPersons[f];
            if (factCasks[f] == NONE) {
                healths[p] = factHealths[f];
            } else {
                drunkBy[p] |= 1 << factCasks[f];
            }
        }

        boolean isCutSet(int set) {
            if ((set & harmless) != 0) {
                return false;
            }
            for (int p = 0; p < persons; p++) {
                if (healths[p] == ILL && (drunkBy[p] & set) == 0) {
                    return false;
                }
            }
            return true;
        }

        int countCutSets() {
            int found = 0;
            for (int set = 0; set < 1 << count; set++) {
                if (isCutSet(set)) {
                    found++;
                }
            }
            return found;
        }

        int fewest() {
            int least = NONE;
            for (int set = 0; set < 1 << count; set++) {
                int size = Integer.bitCount(set);
                if ((least == NONE || size < least) && isCutSet(set)) {
                    least = size;
                }
            }
            return least;
        }

        /** All CASKS that may be poison make a CUT set, if any do; so each of them is in some. */
        int inSome() {
            int suspects = (1 << count) - 1 & ~harmless;
            return isCutSet(suspects) ? suspects : 0;
        }

        /** A CASK is in all CUT sets, if all suspects but it make none. */
        int inAll() {
            int suspects = inSome();
            int found = 0;
            for (int c = 0; c < count; c++) {
                if ((suspects >> c & 1) != 0 && !isCutSet(suspects & ~(1 << c))) {
                    found |= 1 << c;
                }
            }
            return found;
        }

        int personsWho(int health) {
            int found = 0;
            for (int p = 0; p < persons; p++) {
                if (healths[p] == health) {
                    found |= 1 << p;
                }
            }
            return found;
        }

        int firstDayKnown(int c) {
            for (int day = 0; day < DAYS; day++) {
                learn(day);
                if ((inAll() >> c & 1) != 0) {
                    return day;
                }
            }
            return NONE;
        }

        void leave(int body) {
            trail = 31 * trail + body;
        }

        int tellOf(int c) {
            return switch (kinds[c]) {
                case MARKED -> tellMarked(c);
                case SPIRIT -> tellSpirit(c);
                default -> tellStuff(c);
            };
        }

        int tellStuff(int c) {
            leave(1);
            return strengths[c];
        }

        int tellSpirit(int c) {
            leave(2);
            return tellStuff(c) + factsOf(c);
        }

        int tellMarked(int c) {
            leave(3);
            int asSpirit = tellSpirit(c);
            return asSpirit + tellStuff(c);
        }

        int factsOf(int c) {
            int found = 0;
            for (int f = 0; f < facts; f++) {
                if (factCasks[f] == c) {
                    found++;
                }
            }
            return found;
        }

        int hangOf(int c) {
            boolean isMarked = kinds[c] == MARKED;
            leave(isMarked ? 5 : 4);
            return isMarked ? MARKED_HANG : c;
        }
    }

    /** PAPERS: RAIDS and what was found by PAPERS ahead of it. */
    private static final class Papers {
        static final int RAID = 0;

        // The set by which a PAPER was found; a RAID was found by none.
        final int[] founds = new int[24];
        final boolean[] mets = new boolean[24];
        int count;

        int addPaper(int by, boolean isMet) {
            if (count == founds.length) {
                return FULL;
            }
            founds[count] = by;
            mets[count] = isMet;
            count++;
            return count - 1;
        }

        boolean areThere(int set) {
            return set != 0 && set >>> count == 0;
        }

        boolean hasPaper(int p) {
            return within(p, 0, count - 1);
        }

        boolean isRaid(int p) {
            return founds[p] == RAID;
        }

        boolean isUnmetRaid(int p) {
            return isRaid(p) && !mets[p];
        }

        int tellRaid(int p, boolean is) {
            boolean wasSo = mets[p] == is;
            mets[p] = is;
            return wasSo ? 0 : 1;
        }

        /** The PAPERS that are VOID, if one RAID (or NONE) were MET. */
        int voidsIf(int raid) {
            int found = 0;
            for (int p = 0; p < count; p++) {
                boolean isVoid = isRaid(p) ? !mets[p] && p != raid : (founds[p] & ~found) == 0;
                if (isVoid) {
                    found |= 1 << p;
                }
            }
            return found;
        }

        int savedBy(int raid) {
            return Integer.bitCount(voidsIf(NONE)) - Integer.bitCount(voidsIf(raid));
        }

        int worstRaid() {
            int worst = NONE;
            int most = 0;
            for (int p = 0; p < count; p++) {
                int itSaves = isUnmetRaid(p) ? savedBy(p) : 0;
                if (itSaves > most) {
                    worst = p;
                    most = itSaves;
                }
            }
            return worst;
        }
    }

    /** COURTS with their CASES, and the JURY. */
    private static final class Courts {
        static final int MOST_CASES = 30;
        static final int MOST_JURORS = 12;

        final int[] lengths = new int[MOST_CASES];
        final int[] comes = new int[MOST_CASES];
        final int[] ranks = new int[MOST_CASES];
        final int[] heardOn = new int[MOST_CASES];
        final int[] heardBy = new int[MOST_CASES];
        int judges = 1;
        int minutesEach = 300;
        int cases;
        int casesHeard;
        int jurors;
        // The jurors' odds put together; twelve lower numbers of 20 stay far below a long's end.
        long guilty = 1;
        long free = 1;
        long whole = 1;

        int setCourt(int howMany, int minutes) {
            judges = howMany;
            minutesEach = minutes;
            hearCases();
            return casesHeard;
        }

        int addCase(int minutes, int day, int rank) {
            if (cases == MOST_CASES) {
                return FULL;
            }
            lengths[cases] = minutes;
            comes[cases] = day;
            ranks[cases] = rank;
            cases++;
            hearCases();
            return cases - 1;
        }

        boolean hasCase(int c) {
            return within(c, 0, cases - 1);
        }

        void hearCases() {
            Arrays.fill(heardOn, NONE);
            Arrays.fill(heardBy, NONE);
            casesHeard = 0;
            for (int day = 0; day < DAYS && casesHeard < cases; day++) {
                for (int judge = 0; judge < judges; judge++) {
                    sit(day, judge);
                }
            }
        }

        void sit(int day, int judge) {
            int left = minutesEach;
            int c = nextCase(day, left);
            for (int k = 0; k < MOST_CASES && c != NONE; k++) {
                heardOn[c] = day;
                heardBy[c] = judge;
                casesHeard++;
                left -= lengths[c];
                c = nextCase(day, left);
            }
        }

        int nextCase(int day, int left) {
            int best = NONE;
            for (int c = 0; c < cases; c++) {
                boolean canBe = comes[c] <= day && heardOn[c] == NONE && lengths[c] <= left;
                if (canBe && (best == NONE || goesAhead(c, best))) {
                    best = c;
                }
            }
            return best;
        }

        boolean goesAhead(int c, int other) {
            return ranks[c] > ranks[other] || ranks[c] == ranks[other] && comes[c] < comes[other];
        }

        int countWaiting(int day) {
            int found = 0;
            for (int c = 0; c < cases; c++) {
                boolean wasHeard = heardOn[c] != NONE && heardOn[c] <= day;
                if (comes[c] <= day && !wasHeard) {
                    found++;
                }
            }
            return found;
        }

        int addJuror(int p, int q) {
            if (jurors == MOST_JURORS) {
                return FULL;
            }
            jurors++;
            guilty *= p;
            free *= q - p;
            whole *= q;
            return jurors;
        }

        int dismissAll() {
            int before = jurors;
            jurors = 0;
            guilty = 1;
            free = 1;
            whole = 1;
            return before;
        }

        long share(int what, int which) {
            long upper = switch (what) {
                case 0 -> guilty;
                case 1 -> free;
                default -> whole - guilty - free;
            };
            long divisor = commonDivisor(whole, upper);
            if (divisor == 0) {
                return LOST;
            }
            return (which == 0 ? upper : whole) / divisor;
        }

        static long commonDivisor(long a, long b) {
            long greater = a;
            long lesser = b;
            // A hundred rounds are more than any two longs need.
            for (int round = 0; round < 100 && lesser != 0; round++) {
                long rest = greater % lesser;
                greater = lesser;
                lesser = rest;
            }
            return greater;
        }
    }

    /** TOWNS. */
    private static final class Towns {
        static final int MOST = 6;
        static final int MOST_STOCK = 9999;

        final int[] habits = new int[MOST];
        final int[] stocks = new int[MOST];
        final int[] prices = new int[MOST];
        final int[] weeks = new int[MOST];
        final int[] drunk = new int[MOST];
        int count;

        int addTown(int habit, int stock) {
            if (count == MOST) {
                return FULL;
            }
            habits[count] = habit;
            stocks[count] = stock;
            prices[count] = 10;
            count++;
            return count - 1;
        }

        boolean hasTown(int t) {
            return within(t, 0, count - 1);
        }

        int passWeek(int t, int comes) {
            int stock = stocks[t] + comes;
            if (stock > MOST_STOCK) {
                return FULL;
            }
            int want = Math.max(0, habits[t] - prices[t] / 4);
            int itsDrunk = Math.min(want, stock);
            stocks[t] = stock - itsDrunk;
            prices[t] = nextPrice(prices[t], want, stock);
            weeks[t]++;
            drunk[t] += itsDrunk;
            return itsDrunk;
        }

        static int nextPrice(int price, int want, int stock) {
            if (want > stock) {
                return Math.min(99, price + 1);
            }
            return stock >= 2 * want ? Math.max(1, price - 1) : price;
        }
    }
}
