import java.math.BigInteger;
import java.util.ArrayList;
import java.util.Arrays;
import java.util.List;
import java.util.TreeSet;
import java.util.function.IntPredicate;

/**
 * The document a second time, as a model to compare with: it keeps what was told and works all else out anew at each
 * call, and leaves to Java's own machine what the document takes from it (faults of rows, bodies that override one
 * another). It keeps to no rule of the class's language and shares no code with it.
 */
public final class Model {
    private static final int UNKNOWN = -1, OUTSIDE = -2, STATE = -3, FULL = -4, NONE = -9;
    private static final long LOST = Long.MIN_VALUE;

    private final List<String> lines = new ArrayList<>();
    private final List<Integer> struck = new ArrayList<>();
    private final List<int[]> steps = new ArrayList<>();
    private final List<Integer> hours = new ArrayList<>();
    private final List<int[]> slips = new ArrayList<>();
    private final List<int[]> rounds = new ArrayList<>();
    private final List<int[]> roads = new ArrayList<>();
    private final List<int[]> starts = new ArrayList<>();
    private final List<Stuff> casks = new ArrayList<>();
    private final List<int[]> facts = new ArrayList<>();
    private final List<TreeSet<Integer>> papers = new ArrayList<>();
    private final TreeSet<Integer> metRaids = new TreeSet<>();
    private final List<int[]> cases = new ArrayList<>();
    private final List<int[]> jurors = new ArrayList<>();
    private final List<int[]> towns = new ArrayList<>();
    private final Object[] sheets = new Object[4];
    private int persons = 0, judges = 1, minutes = 300, miles = 3, trace = 0, fault = 0;

    private static boolean in(int low, int number, int high) {
        return low <= number && number <= high;
    }

    private static <T> boolean isOf(int number, List<T> list) {
        return in(0, number, list.size() - 1);
    }

    private static <T> int put(List<T> list, T one, int ever) {
        if (list.size() == ever) {
            return FULL;
        }
        list.add(one);
        return list.size() - 1;
    }

    private static int set(int below, IntPredicate is) {
        int set = 0;
        for (int k = 0; k < below; k++) {
            set |= is.test(k) ? 1 << k : 0;
        }
        return set;
    }

    // ---- 1 lines

    private static boolean isText(String codes) {
        if (!codes.matches("[msck][0123*](>\\d\\d?)?@\\d\\d?-\\d\\d?(![dpev]+)?")) {
            return false;
        }
        String letters = codes.contains("!") ? codes.substring(codes.indexOf('!') + 1) : "";
        return letters.chars().distinct().count() == letters.length();
    }

    /** What may be wanting to a TEXT, whichever codes it begins with. */
    private static final String[] ENDS = {"", "m0@0-0", "0@0-0", "@0-0", "0-0", "-0", "0", "d", "p", "e", "v"};

    private static boolean textGoesOn(String start) {
        for (String end : ENDS) {
            if (isText(start + end)) {
                return true;
            }
        }
        return false;
    }

    private static int firstFault(String codes) {
        int place = 0;
        while (place < codes.length() && textGoesOn(codes.substring(0, place + 1))) {
            place++;
        }
        return place;
    }

    private static String asString(int[] cells) {
        StringBuilder codes = new StringBuilder();
        for (int cell : cells) {
            // What is no code becomes a sign that no TEXT has.
            codes.append(in(1, cell, 127) ? (char) cell : '?');
        }
        return codes.toString();
    }

    public int text(int sheet, int lane, int i, int n) {
        int refused = refusesCells(sheet, lane, true);
        int[] cells = refused == 0 ? cells(sheet, lane, i, n) : null;
        if (cells == null) {
            return refused == 0 ? -10 - fault : refused;
        }
        String codes = asString(cells);
        if (!isText(codes)) {
            return -100 - firstFault(codes);
        }
        int number = put(lines, codes, 24);
        if (number >= 0) {
            struck.add(NONE);
        }
        return number;
    }

    public int strike(int l, int day) {
        if (!isOf(l, lines)) {
            return UNKNOWN;
        }
        return in(0, day, 99) ? struck.set(l, day) : OUTSIDE;
    }

    private static int part(String line, int what) {
        String[] days = line.replaceAll(".*@|!.*", "").split("-");
        switch (what) {
            case 0:
                return "msck".indexOf(line.charAt(0));
            case 1:
                return "0123*".indexOf(line.charAt(1));
            case 2:
                return line.contains(">") ? Integer.parseInt(line.substring(3, line.indexOf('@'))) : NONE;
            case 3:
                return Integer.parseInt(days[0]);
            case 4:
                return Integer.parseInt(days[1]);
            default:
                return set(4, k -> line.indexOf("dpev".charAt(k)) > 0);
        }
    }

    public int line(int l, int what) {
        if (!isOf(l, lines)) {
            return UNKNOWN;
        }
        if (!in(0, what, 6)) {
            return OUTSIDE;
        }
        return what == 6 ? struck.get(l) : part(lines.get(l), what);
    }

    private static boolean isOn(String line, int itsStruck, int day) {
        return in(part(line, 3), day, part(line, 4)) && (itsStruck == NONE || day < itsStruck);
    }

    private static boolean stopsDeed(String line, int itsStruck, int[] deed, int day) {
        return isOn(line, itsStruck, day) && part(line, 0) == deed[0]
            && (line.charAt(1) == '*' || part(line, 1) == deed[1])
            && (!line.contains(">") || deed[2] > part(line, 2))
            && (part(line, 5) & 1 << deed[3]) == 0;
    }

    private static boolean isDeed(int verb, int kind, int strength, int who) {
        return in(0, verb, 3) && in(0, kind, 3) && in(0, strength, 99) && in(0, who, 4);
    }

    private int firstStop(int[] deed, int day) {
        for (int l = 0; l < lines.size(); l++) {
            if (stopsDeed(lines.get(l), struck.get(l), deed, day)) {
                return l;
            }
        }
        return NONE;
    }

    public int stops(int verb, int kind, int strength, int who, int day) {
        if (!isDeed(verb, kind, strength, who) || !in(0, day, 99)) {
            return OUTSIDE;
        }
        return firstStop(new int[] {verb, kind, strength, who}, day) == NONE ? 0 : 1;
    }

    public int why(int verb, int kind, int strength, int who, int day) {
        if (!isDeed(verb, kind, strength, who) || !in(0, day, 99)) {
            return OUTSIDE;
        }
        return firstStop(new int[] {verb, kind, strength, who}, day);
    }

    public int force(int day) {
        return in(0, day, 99) ? Integer.bitCount(set(lines.size(), l -> isOn(lines.get(l), struck.get(l), day)))
            : OUTSIDE;
    }

    // ---- 2 steps

    public int step(int from, int to, int verb, int kind, int strength, int who) {
        if (!in(0, from, 11) || !in(0, to, 11) || from == to || !isDeed(verb, kind, strength, who)) {
            return OUTSIDE;
        }
        return put(steps, new int[] {from, to, verb, kind, strength, who}, 24);
    }

    private static int[] deedOf(int[] step) {
        return Arrays.copyOfRange(step, 2, 6);
    }

    /** The first of the shortest rows to each STAGE, forward from the vat, a STEP at a time. */
    private int[] leastRow(int day) {
        int[][] rows = new int[12][];
        rows[0] = new int[0];
        for (int length = 1; length <= 12 && rows[11] == null; length++) {
            int[][] next = rows.clone();
            for (int s = 0; s < steps.size(); s++) {
                int from = steps.get(s)[0];
                int to = steps.get(s)[1];
                boolean goes = rows[from] != null && rows[from].length == length - 1 && rows[to] == null
                    && firstStop(deedOf(steps.get(s)), day) == NONE;
                if (goes) {
                    int[] row = Arrays.copyOf(rows[from], length);
                    row[length - 1] = s;
                    next[to] = next[to] == null || Arrays.compare(row, next[to]) < 0 ? row : next[to];
                }
            }
            rows = next;
        }
        return rows[11];
    }

    public int least(int day, int i) {
        if (!in(0, day, 99)) {
            return OUTSIDE;
        }
        if (i < -1) {
            return UNKNOWN;
        }
        int[] row = leastRow(day);
        if (row == null) {
            return NONE;
        }
        return i == -1 ? row.length : i < row.length ? row[i] : UNKNOWN;
    }

    public int more(int day, int sheet, int lane, int i, int n) {
        int refused = refusesCells(sheet, lane, in(0, day, 99));
        int[] cells = refused == 0 ? cells(sheet, lane, i, n) : null;
        if (cells == null) {
            return refused == 0 ? -10 - fault : refused;
        }
        String codes = asString(cells);
        if (!isText(codes)) {
            return -100 - firstFault(codes);
        }
        return Integer.bitCount(set(steps.size(), s -> firstStop(deedOf(steps.get(s)), day) == NONE
            && stopsDeed(codes, NONE, deedOf(steps.get(s)), day)));
    }

    // ---- 3 slips

    public int doctor(int itsHours) {
        return in(1, itsHours, 24) ? put(hours, itsHours, 6) : OUTSIDE;
    }

    public int slip(int doctor, int number, int day) {
        if (!isOf(doctor, hours)) {
            return UNKNOWN;
        }
        return in(0, number, 999) && in(0, day, 99) ? put(slips, new int[] {doctor, number, day}, 40) : OUTSIDE;
    }

    public int twice() {
        TreeSet<Integer> numbers = new TreeSet<>();
        int twice = 0;
        for (int[] slip : slips) {
            twice += numbers.add(slip[1]) ? 0 : 1;
        }
        return twice;
    }

    public int tooMany(int doctor, int i) {
        if (!isOf(doctor, hours)) {
            return UNKNOWN;
        }
        List<Integer> days = new ArrayList<>();
        for (int day = 0; day < 100; day++) {
            int on = day;
            long itsSlips = slips.stream().filter(s -> s[0] == doctor && s[2] == on).count();
            if (itsSlips > 4L * hours.get(doctor)) {
                days.add(day);
            }
        }
        return i == -1 ? days.size() : isOf(i, days) ? days.get(i) : UNKNOWN;
    }

    // ---- 4 nights

    private static boolean arePlaces(int[] cells) {
        return in(1, cells.length, 12) && Arrays.stream(cells).allMatch(c -> in(0, c, 9));
    }

    public int agent(int sheet, int lane, int i, int n) {
        int refused = refusesCells(sheet, lane, true);
        int[] cells = refused == 0 ? cells(sheet, lane, i, n) : null;
        if (cells == null) {
            return refused == 0 ? -10 - fault : refused;
        }
        return arePlaces(cells) ? put(rounds, cells, 8) : OUTSIDE;
    }

    public int truck(int hour, int came, int sheet, int lane, int i, int n) {
        int refused = refusesCells(sheet, lane, in(0, hour, 11) && in(-1, came, 1));
        int[] cells = refused == 0 ? cells(sheet, lane, i, n) : null;
        if (cells == null) {
            return refused == 0 ? -10 - fault : refused;
        }
        int number = arePlaces(cells) ? put(roads, cells, 12) : OUTSIDE;
        if (number >= 0) {
            starts.add(new int[] {hour, came});
        }
        return number;
    }

    public int came(int truck, int is) {
        if (!isOf(truck, roads)) {
            return UNKNOWN;
        }
        if (!in(-1, is, 1)) {
            return OUTSIDE;
        }
        int before = starts.get(truck)[1];
        starts.get(truck)[1] = is;
        return before == -1 ? NONE : before;
    }

    private boolean doMeet(int agent, int truck) {
        int[] round = rounds.get(agent);
        int[] road = roads.get(truck);
        int hour = starts.get(truck)[0];
        int agentWas = -1;
        int truckWas = -1;
        for (int place : road) {
            int agentIs = round[hour % round.length];
            if (agentIs == place || truckWas != -1 && agentWas == place && agentIs == truckWas) {
                return true;
            }
            agentWas = agentIs;
            truckWas = place;
            hour++;
        }
        return false;
    }

    private int meetSet(int truck) {
        return set(rounds.size(), a -> doMeet(a, truck));
    }

    public int meets(int truck) {
        return isOf(truck, roads) ? meetSet(truck) : UNKNOWN;
    }

    private List<Integer> allWorlds() {
        int[] meet = new int[roads.size()];
        Arrays.setAll(meet, this::meetSet);
        List<Integer> worlds = new ArrayList<>();
        for (int w = 0; w < 1 << rounds.size(); w++) {
            int notBribed = ~w;
            int wrong = set(meet.length, t -> starts.get(t)[1] == 1 && (meet[t] & notBribed) != 0
                || starts.get(t)[1] == 0 && (meet[t] & notBribed) == 0);
            if (wrong == 0) {
                worlds.add(w);
            }
        }
        return worlds;
    }

    public int worlds() {
        return allWorlds().size();
    }

    public int sure(int who, int n) {
        if (who != 0 && who != 1) {
            return OUTSIDE;
        }
        if (!isOf(n, who == 0 ? rounds : roads)) {
            return UNKNOWN;
        }
        List<Integer> worlds = allWorlds();
        int bribed = who == 0 ? 1 << n : meetSet(n);
        long with = worlds.stream().filter(w -> (w & bribed) == bribed).count();
        return worlds.isEmpty() ? NONE : with == worlds.size() ? 2 : with == 0 ? 0 : 1;
    }

    // ---- 5 casks

    /** The bodies of 9 stand here as bodies: each leaves its number as it begins. */
    private interface Lent {
        int number();

        Model land();

        default int hung() {
            land().leave(4);
            return number();
        }
    }

    private static class Stuff implements Lent {
        final Model land;
        final int number;
        final int strength;

        Stuff(Model land, int number, int strength) {
            this.land = land;
            this.number = number;
            this.strength = strength;
        }

        public int number() {
            return number;
        }

        public Model land() {
            return land;
        }

        int telling() {
            return stuffTelling();
        }

        final int stuffTelling() {
            land.leave(1);
            return strength;
        }
    }

    private static class Spirit extends Stuff {
        Spirit(Model land, int number, int strength) {
            super(land, number, strength);
        }

        @Override
        int telling() {
            land.leave(2);
            int its = stuffTelling();
            return its + (int) land.facts.stream().filter(f -> f[1] == number).count();
        }
    }

    private static final class Marked extends Spirit {
        Marked(Model land, int number, int strength) {
            super(land, number, strength);
        }

        @Override
        int telling() {
            land.leave(3);
            int spirits = super.telling();
            int stuffs = stuffTelling();
            return spirits + stuffs;
        }

        @Override
        public int hung() {
            land.leave(5);
            return 45;
        }
    }

    private void leave(int body) {
        trace = 31 * trace + body;
    }

    public int cask(int kind, int strength) {
        if (!in(0, kind, 2) || !in(0, strength, 99)) {
            return OUTSIDE;
        }
        int number = casks.size();
        return put(casks, kind == 0 ? new Stuff(this, number, strength) : kind == 1
            ? new Spirit(this, number, strength) : new Marked(this, number, strength), 12);
    }

    public int person() {
        if (persons == 12) {
            return FULL;
        }
        return persons++;
    }

    public int drank(int person, int cask, int known) {
        if (!in(0, person, persons - 1) || !isOf(cask, casks)) {
            return UNKNOWN;
        }
        return in(0, known, 99) ? put(facts, new int[] {person, cask, known}, 60) : OUTSIDE;
    }

    public int fell(int person, boolean ill, int known) {
        if (!in(0, person, persons - 1)) {
            return UNKNOWN;
        }
        return in(0, known, 99) ? put(facts, new int[] {person, ill ? -1 : -2, known}, 60) : OUTSIDE;
    }

    /** -1 ill, -2 well, 0 neither is KNOWN. */
    private int healthOf(int person, int day) {
        for (int f = facts.size() - 1; f >= 0; f--) {
            int[] fact = facts.get(f);
            if (fact[0] == person && fact[1] < 0 && fact[2] <= day) {
                return fact[1];
            }
        }
        return 0;
    }

    private List<Integer> cutSets(int day) {
        int[] health = new int[persons];
        int[] drunk = new int[persons];
        for (int p = 0; p < persons; p++) {
            int who = p;
            health[p] = healthOf(p, day);
            drunk[p] = set(casks.size(), c -> facts.stream().anyMatch(f -> f[0] == who && f[1] == c && f[2] <= day));
        }
        List<Integer> sets = new ArrayList<>();
        for (int cut = 0; cut < 1 << casks.size(); cut++) {
            boolean is = true;
            for (int p = 0; p < persons && is; p++) {
                is = health[p] == 0 || (health[p] == -1) == ((drunk[p] & cut) != 0);
            }
            if (is) {
                sets.add(cut);
            }
        }
        return sets;
    }

    public int cut(int day, int what) {
        if (!in(0, day, 99) || !in(0, what, 5)) {
            return OUTSIDE;
        }
        if (what >= 4) {
            return set(persons, p -> healthOf(p, day) == (what == 4 ? -1 : -2));
        }
        List<Integer> sets = cutSets(day);
        switch (what) {
            case 0:
                return sets.size();
            case 1:
                return sets.stream().mapToInt(Integer::bitCount).min().orElse(NONE);
            case 2:
                return sets.stream().reduce((a, b) -> a & b).orElse(0);
            default:
                return sets.stream().reduce((a, b) -> a | b).orElse(0);
        }
    }

    public int knew(int cask) {
        if (!isOf(cask, casks)) {
            return UNKNOWN;
        }
        // Nothing becomes KNOWN on a DAY that no FACT names; with none at all no CASK is in all.
        TreeSet<Integer> days = new TreeSet<>();
        facts.forEach(f -> days.add(f[2]));
        for (int day : days) {
            List<Integer> sets = cutSets(day);
            if (!sets.isEmpty() && sets.stream().allMatch(s -> (s >> cask & 1) == 1)) {
                return day;
            }
        }
        return NONE;
    }

    // ---- 6 papers

    public int raid(boolean met) {
        int number = put(papers, new TreeSet<>(), 24);
        if (number >= 0 && met) {
            metRaids.add(number);
        }
        return number;
    }

    public int paper(int by) {
        TreeSet<Integer> found = new TreeSet<>();
        for (int k = 0; k < 32; k++) {
            if ((by >>> k & 1) == 1) {
                found.add(k);
            }
        }
        if (found.isEmpty() || found.last() >= papers.size()) {
            return OUTSIDE;
        }
        return put(papers, found, 24);
    }

    public int met(int p, boolean is) {
        if (!isOf(p, papers)) {
            return UNKNOWN;
        }
        if (!papers.get(p).isEmpty()) {
            return STATE;
        }
        return (is ? metRaids.add(p) : metRaids.remove(p)) ? 1 : 0;
    }

    private TreeSet<Integer> voidPapers(TreeSet<Integer> mets) {
        TreeSet<Integer> voids = new TreeSet<>();
        for (int p = 0; p < papers.size(); p++) {
            TreeSet<Integer> by = papers.get(p);
            if (by.isEmpty() ? !mets.contains(p) : voids.containsAll(by)) {
                voids.add(p);
            }
        }
        return voids;
    }

    public int voids() {
        TreeSet<Integer> voids = voidPapers(metRaids);
        return set(24, voids::contains);
    }

    public int saved(int p) {
        if (!isOf(p, papers)) {
            return UNKNOWN;
        }
        if (!papers.get(p).isEmpty() || metRaids.contains(p)) {
            return STATE;
        }
        TreeSet<Integer> then = new TreeSet<>(metRaids);
        then.add(p);
        TreeSet<Integer> more = voidPapers(metRaids);
        more.removeAll(voidPapers(then));
        return more.size();
    }

    public int worst() {
        int worst = NONE;
        for (int p = papers.size() - 1; p >= 0; p--) {
            if (saved(p) >= 0 && (worst == NONE || saved(p) >= saved(worst))) {
                worst = p;
            }
        }
        return worst;
    }

    // ---- 7 courts

    public int court(int itsJudges, int itsMinutes) {
        if (!in(1, itsJudges, 4) || !in(1, itsMinutes, 600)) {
            return OUTSIDE;
        }
        judges = itsJudges;
        minutes = itsMinutes;
        return (int) Arrays.stream(hearings()).filter(h -> h != null).count();
    }

    public int sue(int itsMinutes, int day, int rank) {
        if (!in(1, itsMinutes, 600) || !in(0, day, 99) || !in(0, rank, 9)) {
            return OUTSIDE;
        }
        return put(cases, new int[] {itsMinutes, day, rank, cases.size()}, 30);
    }

    /** Of each CASE the DAY and the JUDGE; null, if it is not heard. */
    private int[][] hearings() {
        List<int[]> waiting = new ArrayList<>(cases);
        waiting.sort((a, b) -> a[2] != b[2] ? b[2] - a[2] : a[1] != b[1] ? a[1] - b[1] : a[3] - b[3]);
        int[][] heard = new int[cases.size()][];
        for (int day = 0; day < 100; day++) {
            for (int judge = 0; judge < judges; judge++) {
                int left = minutes;
                // What is left only shrinks, so one that did not fit once will not fit later that DAY.
                for (int[] one : new ArrayList<>(waiting)) {
                    if (one[1] <= day && one[0] <= left) {
                        left -= one[0];
                        heard[one[3]] = new int[] {day, judge};
                        waiting.remove(one);
                    }
                }
            }
        }
        return heard;
    }

    public int heard(int c, int what) {
        if (!isOf(c, cases)) {
            return UNKNOWN;
        }
        if (!in(0, what, 4)) {
            return OUTSIDE;
        }
        if (what < 3) {
            return cases.get(c)[what];
        }
        int[] hearing = hearings()[c];
        return hearing == null ? NONE : hearing[what - 3];
    }

    public int waiting(int day) {
        if (!in(0, day, 99)) {
            return OUTSIDE;
        }
        int[][] heard = hearings();
        return Integer.bitCount(set(cases.size(), c -> cases.get(c)[1] <= day
            && !(heard[c] != null && heard[c][0] <= day)));
    }

    public int juror(int p, int q) {
        if (!in(1, q, 20) || !in(0, p, q)) {
            return OUTSIDE;
        }
        return put(jurors, new int[] {p, q}, 12) == FULL ? FULL : jurors.size();
    }

    public int dismiss() {
        int were = jurors.size();
        jurors.clear();
        return were;
    }

    public long jury(int what, int which) {
        if (!in(0, what, 2) || !in(0, which, 1) || jurors.isEmpty()) {
            return LOST;
        }
        long upper = 0;
        long lower = 1;
        for (int[] juror : jurors) {
            lower *= juror[1];
        }
        int all = (1 << jurors.size()) - 1;
        for (int guilty = 0; guilty <= all; guilty++) {
            if ((guilty == all ? 0 : guilty == 0 ? 1 : 2) == what) {
                long odds = 1;
                for (int k = 0; k < jurors.size(); k++) {
                    int[] juror = jurors.get(k);
                    odds *= (guilty >> k & 1) == 1 ? juror[0] : juror[1] - juror[0];
                }
                upper += odds;
            }
        }
        long common = BigInteger.valueOf(upper).gcd(BigInteger.valueOf(lower)).longValueExact();
        return (which == 0 ? upper : lower) / common;
    }

    // ---- 8 sea, towns

    public int miles(int m) {
        if (!in(1, m, 30)) {
            return OUTSIDE;
        }
        int were = miles;
        miles = m;
        return were;
    }

    public int chase(int x, int y, int dx, int dy, int bx, int by, int v) {
        boolean areThere = in(0, x, 30) && in(0, y, 30) && in(0, bx, 30) && in(0, by, 30);
        if (!areThere || !in(-3, dx, 3) || !in(-3, dy, 3) || !in(1, v, 5)) {
            return OUTSIDE;
        }
        int shipX = x;
        int shipY = y;
        // The boat keeps as near to the ship's place at that hour as it can.
        for (int hour = 0; hour <= 23; hour++) {
            int boatX = bx + Math.max(-v * hour, Math.min(v * hour, shipX - bx));
            int boatY = by + Math.max(-v * hour, Math.min(v * hour, shipY - by));
            boolean isAtSea = in(0, shipX, 30) && in(0, shipY, 30);
            if (isAtSea && shipX <= miles - 1 && boatX == shipX && boatY == shipY) {
                return hour;
            }
            shipX += dx;
            shipY += dy;
        }
        return NONE;
    }

    public int town(int habit, int stock) {
        return in(0, habit, 99) && in(0, stock, 999) ? put(towns, new int[] {habit, stock, 10, 0, 0}, 6) : OUTSIDE;
    }

    public int week(int t, int comes) {
        if (!isOf(t, towns)) {
            return UNKNOWN;
        }
        if (!in(0, comes, 999)) {
            return OUTSIDE;
        }
        int[] town = towns.get(t);
        int stock = town[1] + comes;
        if (stock > 9999) {
            return FULL;
        }
        int want = town[0] - town[2] / 4;
        want = want < 0 ? 0 : want;
        int drunk = want < stock ? want : stock;
        int price = want > stock ? town[2] + 1 : stock >= want + want ? town[2] - 1 : town[2];
        town[1] = stock - drunk;
        town[2] = price == 0 ? 1 : price == 100 ? 99 : price;
        town[3]++;
        town[4] += drunk;
        return drunk;
    }

    public int ofTown(int t, int what) {
        if (!isOf(t, towns)) {
            return UNKNOWN;
        }
        return in(0, what, 4) ? towns.get(t)[what] : OUTSIDE;
    }

    // ---- 9 sheets, parts: rows as Java has them, so that its machine comes to the faults by itself

    private int faultOf(RuntimeException thrown) {
        fault = thrown instanceof NullPointerException ? 1 : thrown instanceof ClassCastException ? 2
            : thrown instanceof IndexOutOfBoundsException ? 3 : thrown instanceof NegativeArraySizeException ? 4 : 99;
        return -10 - fault;
    }

    private int refusesCells(int sheet, int lane, boolean isElseAsTold) {
        fault = 0;
        return !in(0, sheet, 3) ? UNKNOWN : in(0, lane, 2) && isElseAsTold ? 0 : OUTSIDE;
    }

    private static Object copy(Object row, int lane, int i, int n) {
        Object to;
        switch (lane) {
            case 0:
                byte[] bytes = (byte[]) row;
                to = new byte[bytes.length < 0 ? 0 : n];
                System.arraycopy(bytes, i, to, 0, n);
                return to;
            case 1:
                short[] shorts = (short[]) row;
                to = new short[shorts.length < 0 ? 0 : n];
                System.arraycopy(shorts, i, to, 0, n);
                return to;
            default:
                int[] ints = (int[]) row;
                to = new int[ints.length < 0 ? 0 : n];
                System.arraycopy(ints, i, to, 0, n);
                return to;
        }
    }

    /** Null, if it came to a fault. */
    private int[] cells(int sheet, int lane, int i, int n) {
        try {
            // A length that Java could not make room for is one that no row has.
            Object row = copy(sheets[sheet], lane, i, Math.min(n, 1000));
            int[] cells = new int[Math.min(n, 1000)];
            for (int k = 0; k < cells.length; k++) {
                cells[k] = java.lang.reflect.Array.getInt(row, k);
            }
            return cells;
        } catch (NullPointerException | ClassCastException | IndexOutOfBoundsException
                | NegativeArraySizeException thrown) {
            faultOf(thrown);
            return null;
        }
    }

    public int sheet(int k, int lane, int n) {
        int refused = refusesCells(k, lane, n <= 60);
        if (refused != 0) {
            return refused;
        }
        try {
            sheets[k] = lane == 0 ? new byte[n] : lane == 1 ? new short[n] : new int[n];
            return 1;
        } catch (NegativeArraySizeException thrown) {
            return faultOf(thrown);
        }
    }

    public int lose(int k) {
        if (!in(0, k, 3)) {
            return UNKNOWN;
        }
        int had = sheets[k] == null ? 0 : 1;
        sheets[k] = null;
        return had;
    }

    public int put(int k, int i, int v) {
        fault = 0;
        if (!in(0, k, 3)) {
            return UNKNOWN;
        }
        try {
            Object row = sheets[k];
            if (row instanceof byte[] bytes) {
                bytes[i] = (byte) v;
            } else if (row instanceof short[] shorts) {
                shorts[i] = (short) v;
            } else {
                ((int[]) row)[i] = v;
            }
            return 1;
        } catch (NullPointerException | IndexOutOfBoundsException thrown) {
            return faultOf(thrown);
        }
    }

    public long cell(int k, int i, int lane) {
        if (refusesCells(k, lane, true) != 0) {
            return LOST;
        }
        try {
            Object row = sheets[k];
            return lane == 0 ? ((byte[]) row)[i] : lane == 1 ? ((short[]) row)[i] : ((int[]) row)[i];
        } catch (NullPointerException | ClassCastException | IndexOutOfBoundsException thrown) {
            faultOf(thrown);
            return LOST;
        }
    }

    public int tell(int c) {
        return isOf(c, casks) ? casks.get(c).telling() : UNKNOWN;
    }

    public int hang(int c) {
        return isOf(c, casks) ? casks.get(c).hung() : UNKNOWN;
    }

    public int as(int c, int kind) {
        fault = 0;
        if (!isOf(c, casks)) {
            return UNKNOWN;
        }
        if (!in(0, kind, 2)) {
            return OUTSIDE;
        }
        try {
            Class<?> taken = kind == 0 ? Stuff.class : kind == 1 ? Spirit.class : Marked.class;
            return taken.cast(casks.get(c)) == null ? 0 : 1;
        } catch (ClassCastException thrown) {
            return faultOf(thrown);
        }
    }

    public int trace() {
        return trace;
    }

    public int fault() {
        return fault;
    }

    public int many(int what) {
        int[] many = {lines.size(), steps.size(), slips.size(), rounds.size(), roads.size(), casks.size(), persons,
            facts.size(), papers.size(), cases.size(), towns.size(), jurors.size()};
        return in(0, what, 11) ? many[what] : OUTSIDE;
    }
}
