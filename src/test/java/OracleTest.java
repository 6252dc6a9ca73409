import java.util.ArrayList;
import java.util.List;
import java.util.Random;
import java.util.regex.Matcher;
import java.util.regex.Pattern;

/** Random runs (of a fixed seed) against the document's words taken in the most naive way. */
public final class OracleTest {
    private static final Pattern TEXT =
        Pattern.compile("[msck][0-3*](>[0-9]{1,2})?@[0-9]{1,2}-[0-9]{1,2}(![dpev]{1,4})?");

    public static void main(String[] args) {
        Random random = new Random(1920);
        for (int run = 0; run < 300; run++) {
            texts(random);
            ways(random);
            nights(random);
            casks(random);
            papers(random);
            courts(random);
            juries(random);
            chases(random);
        }
        Check.end();
    }

    // ---- texts: a prefix is fit if the pattern matches it or only wants more of it

    private static void texts(Random random) {
        DryLand x = new DryLand();
        int lines = 0;
        for (int k = 0; k < 10; k++) {
            String text = almostText(random);
            int fault = firstFault(text);
            Check.due("text " + text, Check.tell(x, text), fault < 0 ? lines++ : -100 - fault);
        }
    }

    private static String aText(Random random) {
        StringBuilder text = new StringBuilder();
        text.append("msck".charAt(random.nextInt(4))).append("0123*".charAt(random.nextInt(5)));
        if (random.nextBoolean()) {
            text.append('>').append(random.nextInt(100));
        }
        text.append('@').append(random.nextInt(40)).append('-').append(30 + random.nextInt(70));
        if (random.nextBoolean()) {
            text.append('!').append("dpev", random.nextInt(2), 2 + random.nextInt(3));
        }
        return text.toString();
    }

    private static String almostText(Random random) {
        StringBuilder text = new StringBuilder(aText(random));
        String signs = "msck0123456789*>@-!dpev z";
        for (int k = random.nextInt(3); k > 0 && text.length() > 0; k--) {
            int at = random.nextInt(text.length());
            char sign = signs.charAt(random.nextInt(signs.length()));
            switch (random.nextInt(3)) {
                case 0 -> text.setCharAt(at, sign);
                case 1 -> text.insert(at, sign);
                default -> text.deleteCharAt(at);
            }
        }
        return text.toString();
    }

    private static int firstFault(String text) {
        for (int k = 1; k <= text.length(); k++) {
            if (!goesOn(text.substring(0, k))) {
                return k - 1;
            }
        }
        return isText(text) ? -1 : text.length();
    }

    private static boolean isText(String text) {
        return TEXT.matcher(text).matches() && lettersOnce(text);
    }

    private static boolean goesOn(String start) {
        Matcher matcher = TEXT.matcher(start);
        return (matcher.matches() || matcher.hitEnd()) && lettersOnce(start);
    }

    private static boolean lettersOnce(String text) {
        String letters = text.substring(text.indexOf('!') + 1);
        return text.indexOf('!') < 0 || letters.chars().distinct().count() == letters.length();
    }

    // ---- ways: ever longer rows in their order, till one comes to the table

    private static void ways(Random random) {
        DryLand x = new DryLand();
        List<int[]> steps = new ArrayList<>();
        for (int k = 0; k < 24; k++) {
            int from = random.nextInt(12);
            int to = (from + 1 + random.nextInt(11)) % 12;
            int[] s = {from, to, random.nextInt(4), random.nextInt(4), random.nextInt(100), random.nextInt(5)};
            Check.due("step", x.step(s[0], s[1], s[2], s[3], s[4], s[5]), k);
            steps.add(s);
        }
        List<String> texts = new ArrayList<>();
        for (int l = 0; l < 6; l++) {
            texts.add(aText(random));
            Check.due("text", Check.tell(x, texts.get(l)), l);
        }
        int[] struck = {100, 100, 100, 100, 100, 100};
        struck[2] = random.nextInt(100);
        x.strike(2, struck[2]);
        for (int day : new int[] {0, 20, 35, 60, 99}) {
            waysOn(x, day, steps, texts, struck);
        }
    }

    private static void waysOn(DryLand x, int day, List<int[]> steps, List<String> texts, int[] struck) {
        List<Integer> open = new ArrayList<>();
        for (int s = 0; s < steps.size(); s++) {
            int why = firstStop(steps.get(s), day, texts, struck);
            int[] d = steps.get(s);
            Check.due("why", x.why(d[2], d[3], d[4], d[5], day), why);
            if (why == DryLand.NONE) {
                open.add(s);
            }
        }
        List<Integer> way = null;
        for (int length = 1; length <= 11 && way == null; length++) {
            way = wayOf(0, length, open, steps);
        }
        Check.due("least", x.least(day, -1), way == null ? DryLand.NONE : way.size());
        Check.due("least -2", x.least(day, -2), DryLand.UNKNOWN);
        for (int i = 0; way != null && i < way.size(); i++) {
            Check.due("least " + i, x.least(day, i), way.get(i));
        }
        String text = texts.get(0).charAt(0) + "*" + texts.get(0).substring(2);
        Check.row(x, 1, 0, Check.codes(text));
        int more = 0;
        for (int s : open) {
            more += doesStop(text, steps.get(s), day) ? 1 : 0;
        }
        Check.due("more", x.more(day, 1, 0, 0, text.length()), more);
    }

    private static List<Integer> wayOf(int stage, int length, List<Integer> open, List<int[]> steps) {
        if (length == 0) {
            return stage == 11 ? new ArrayList<>() : null;
        }
        for (int s : open) {
            List<Integer> rest = steps.get(s)[0] == stage ? wayOf(steps.get(s)[1], length - 1, open, steps) : null;
            if (rest != null) {
                rest.add(0, s);
                return rest;
            }
        }
        return null;
    }

    private static int firstStop(int[] step, int day, List<String> texts, int[] struck) {
        for (int l = 0; l < texts.size(); l++) {
            if (day < struck[l] && doesStop(texts.get(l), step, day)) {
                return l;
            }
        }
        return DryLand.NONE;
    }

    private static boolean doesStop(String text, int[] step, int day) {
        String[] parts = text.split("[>@!-]");
        boolean hasNumber = text.indexOf('>') >= 0;
        int days = hasNumber ? 2 : 1;
        String letters = text.indexOf('!') < 0 ? "" : text.substring(text.indexOf('!') + 1);
        return text.charAt(0) == "msck".charAt(step[2])
            && (text.charAt(1) == '*' || text.charAt(1) == "0123".charAt(step[3]))
            && (!hasNumber || step[4] > Integer.parseInt(parts[1]))
            && day >= Integer.parseInt(parts[days]) && day <= Integer.parseInt(parts[days + 1])
            && letters.indexOf("dpevx".charAt(step[5])) < 0;
    }

    // ---- nights

    private static void nights(Random random) {
        DryLand x = new DryLand();
        List<int[]> rounds = new ArrayList<>();
        List<int[]> roads = new ArrayList<>();
        int[] hours = new int[12];
        int[] came = new int[12];
        int agents = random.nextInt(9);
        int trucks = random.nextInt(8);
        int places = 2 + random.nextInt(9);
        while (rounds.size() < agents || roads.size() < trucks) {
            boolean isAgent = rounds.size() < agents && (roads.size() == trucks || random.nextBoolean());
            int[] row = new int[1 + random.nextInt(12)];
            for (int k = 0; k < row.length; k++) {
                row[k] = random.nextInt(Math.min(10, places));
            }
            int t = roads.size();
            Check.row(x, 0, 0, row);
            if (isAgent) {
                Check.due("agent", x.agent(0, 0, 0, row.length), rounds.size());
                rounds.add(row);
            } else {
                hours[t] = random.nextInt(12);
                came[t] = random.nextInt(3) - 1;
                Check.due("truck", x.truck(hours[t], came[t], 0, 0, 0, row.length), t);
                roads.add(row);
            }
        }
        nightsAre(x, rounds, roads, hours, came);
    }

    private static void nightsAre(DryLand x, List<int[]> rounds, List<int[]> roads, int[] hours, int[] came) {
        int[] meets = new int[roads.size()];
        for (int t = 0; t < meets.length; t++) {
            for (int a = 0; a < rounds.size(); a++) {
                meets[t] |= doMeet(rounds.get(a), roads.get(t), hours[t]) ? 1 << a : 0;
            }
            Check.due("meets", x.meets(t), meets[t]);
        }
        List<Integer> worlds = new ArrayList<>();
        for (int w = 0; w < 1 << rounds.size(); w++) {
            boolean is = true;
            for (int t = 0; t < meets.length; t++) {
                is &= came[t] == -1 || (came[t] == 1) == ((meets[t] & w) == meets[t]);
            }
            if (is) {
                worlds.add(w);
            }
        }
        Check.due("worlds", x.worlds(), worlds.size());
        for (int a = 0; a < rounds.size(); a++) {
            Check.due("sure of agent", x.sure(0, a), sure(worlds, 1 << a));
        }
        for (int t = 0; t < meets.length; t++) {
            Check.due("sure of truck", x.sure(1, t), sure(worlds, meets[t]));
        }
    }

    private static boolean doMeet(int[] round, int[] road, int start) {
        int[] truckAt = new int[25];
        int[] agentAt = new int[25];
        for (int h = 0; h < 25; h++) {
            truckAt[h] = h >= start && h < start + road.length ? road[h - start] : -1;
            agentAt[h] = round[h % round.length];
        }
        for (int h = 0; h < 24; h++) {
            boolean together = truckAt[h] == agentAt[h];
            boolean swap = truckAt[h] >= 0 && truckAt[h + 1] >= 0 && truckAt[h] == agentAt[h + 1]
                && truckAt[h + 1] == agentAt[h];
            if (together || swap) {
                return true;
            }
        }
        return false;
    }

    private static int sure(List<Integer> worlds, int set) {
        int with = 0;
        for (int w : worlds) {
            with += (w & set) == set ? 1 : 0;
        }
        return worlds.isEmpty() ? DryLand.NONE : with == 0 ? 0 : with == worlds.size() ? 2 : 1;
    }

    // ---- casks

    private static void casks(Random random) {
        DryLand x = new DryLand();
        int casks = random.nextInt(8);
        int persons = 1 + random.nextInt(6);
        for (int c = 0; c < casks; c++) {
            x.cask(random.nextInt(3), 5);
        }
        for (int p = 0; p < persons; p++) {
            x.person();
        }
        List<int[]> facts = new ArrayList<>();
        for (int f = random.nextInt(25); f > 0; f--) {
            int p = random.nextInt(persons);
            int day = random.nextInt(100);
            boolean drank = casks > 0 && random.nextInt(3) > 0;
            int what = drank ? random.nextInt(casks) : random.nextInt(2);
            Check.due("fact", drank ? x.drank(p, what, day) : x.fell(p, what == 1, day), facts.size());
            facts.add(new int[] {p, drank ? 1 : 0, what, day});
        }
        int[] knew = new int[casks];
        java.util.Arrays.fill(knew, DryLand.NONE);
        for (int day = 0; day < 100; day++) {
            int all = cutsOn(x, day, casks, persons, facts, day % 9 == 0);
            for (int c = 0; c < casks; c++) {
                knew[c] = knew[c] == DryLand.NONE && (all >> c & 1) == 1 ? day : knew[c];
            }
        }
        for (int c = 0; c < casks; c++) {
            Check.due("knew", x.knew(c), knew[c]);
        }
    }

    private static int cutsOn(DryLand x, int day, int casks, int persons, List<int[]> facts, boolean asks) {
        int[] drunk = new int[persons];
        int[] health = new int[persons];
        for (int[] f : facts) {
            if (f[3] <= day && f[1] == 1) {
                drunk[f[0]] |= 1 << f[2];
            } else if (f[3] <= day) {
                health[f[0]] = f[2] == 1 ? 1 : 2;
            }
        }
        int[] answers = {0, DryLand.NONE, (1 << casks) - 1, 0, 0, 0};
        for (int set = 0; set < 1 << casks; set++) {
            boolean is = true;
            for (int p = 0; p < persons; p++) {
                is &= health[p] == 0 || health[p] == 1 == ((drunk[p] & set) != 0);
            }
            if (is) {
                int size = Integer.bitCount(set);
                answers[0]++;
                answers[1] = answers[1] == DryLand.NONE ? size : Math.min(answers[1], size);
                answers[2] &= set;
                answers[3] |= set;
            }
        }
        answers[2] = answers[0] == 0 ? 0 : answers[2];
        for (int p = 0; p < persons; p++) {
            answers[4] |= health[p] == 1 ? 1 << p : 0;
            answers[5] |= health[p] == 2 ? 1 << p : 0;
        }
        for (int what = 0; asks && what < 6; what++) {
            Check.due("cut " + day + " " + what, x.cut(day, what), answers[what]);
        }
        return answers[2];
    }

    // ---- papers

    private static void papers(Random random) {
        DryLand x = new DryLand();
        int count = random.nextInt(25);
        int[] by = new int[count];
        boolean[] met = new boolean[count];
        for (int p = 0; p < count; p++) {
            by[p] = random.nextInt(1 << p) & random.nextInt(1 << p);
            met[p] = random.nextInt(4) == 0;
            Check.due("paper", by[p] == 0 ? x.raid(met[p]) : x.paper(by[p]), p);
        }
        Check.due("voids", x.voids(), voids(by, met));
        int worst = DryLand.NONE;
        int most = -1;
        for (int p = 0; p < count; p++) {
            int want = DryLand.STATE;
            if (by[p] == 0 && !met[p]) {
                met[p] = true;
                int then = voids(by, met);
                met[p] = false;
                want = Integer.bitCount(voids(by, met)) - Integer.bitCount(then);
                worst = want > most ? p : worst;
                most = Math.max(most, want);
            }
            Check.due("saved", x.saved(p), want);
        }
        Check.due("worst", x.worst(), worst);
    }

    private static int voids(int[] by, boolean[] met) {
        int voids = 0;
        for (int p = 0; p < by.length; p++) {
            boolean is = by[p] == 0 ? !met[p] : (by[p] & voids) == by[p];
            voids |= is ? 1 << p : 0;
        }
        return voids;
    }

    // ---- courts

    private static void courts(Random random) {
        DryLand x = new DryLand();
        int judges = 1 + random.nextInt(4);
        int minutes = 1 + random.nextInt(600);
        List<int[]> cases = new ArrayList<>();
        for (int c = random.nextInt(31); c > 0; c--) {
            // Minutes, day, rank, number, day and judge of its hearing.
            int[] one = {1 + random.nextInt(random.nextBoolean() ? 600 : 100), random.nextInt(4), random.nextInt(3),
                cases.size(), DryLand.NONE, DryLand.NONE};
            one[1] += random.nextInt(9) == 0 ? 96 : 0;
            Check.due("sue", x.sue(one[0], one[1], one[2]), cases.size());
            cases.add(one);
        }
        List<int[]> inOrder = new ArrayList<>(cases);
        inOrder.sort((a, b) -> a[2] != b[2] ? b[2] - a[2] : a[1] != b[1] ? a[1] - b[1] : a[3] - b[3]);
        int heard = 0;
        for (int k = 0; k < 100 * judges; k++) {
            int left = minutes;
            // What was passed by as too long stays too long, so once through the order is enough.
            for (int[] one : inOrder) {
                if (one[4] == DryLand.NONE && one[1] <= k / judges && one[0] <= left) {
                    one[4] = k / judges;
                    one[5] = k % judges;
                    left -= one[0];
                    heard++;
                }
            }
        }
        Check.due("court", x.court(judges, minutes), heard);
        for (int[] one : cases) {
            Check.due("heard", x.heard(one[3], 3), one[4]);
            Check.due("judge", x.heard(one[3], 4), one[5]);
        }
        for (int day = 0; day < 100; day += 1 + day) {
            int waiting = 0;
            for (int[] one : cases) {
                waiting += one[1] <= day && (one[4] == DryLand.NONE || one[4] > day) ? 1 : 0;
            }
            Check.due("waiting", x.waiting(day), waiting);
        }
    }

    // ---- juries

    private static void juries(Random random) {
        DryLand x = new DryLand();
        java.math.BigInteger[] sums = {java.math.BigInteger.ONE, java.math.BigInteger.ONE, java.math.BigInteger.ONE};
        for (int k = 1 + random.nextInt(12); k > 0; k--) {
            int q = 1 + random.nextInt(20);
            int p = random.nextInt(q + 1);
            x.juror(p, q);
            sums[0] = sums[0].multiply(java.math.BigInteger.valueOf(p));
            sums[1] = sums[1].multiply(java.math.BigInteger.valueOf(q - p));
            sums[2] = sums[2].multiply(java.math.BigInteger.valueOf(q));
        }
        java.math.BigInteger[] upper = {sums[0], sums[1], sums[2].subtract(sums[0]).subtract(sums[1])};
        for (int what = 0; what < 3; what++) {
            java.math.BigInteger divisor = upper[what].gcd(sums[2]);
            Check.due("jury", x.jury(what, 0), upper[what].divide(divisor).longValueExact());
            Check.due("jury", x.jury(what, 1), sums[2].divide(divisor).longValueExact());
        }
    }

    // ---- chases: the boat goes hour by hour through the sea

    private static void chases(Random random) {
        DryLand x = new DryLand();
        int miles = 1 + random.nextInt(30);
        x.miles(miles);
        int[] a = {random.nextInt(31), random.nextInt(31), random.nextInt(7) - 3, random.nextInt(7) - 3,
            random.nextInt(31), random.nextInt(31), 1 + random.nextInt(5)};
        int want = DryLand.NONE;
        boolean[][] boat = new boolean[31][31];
        boat[a[4]][a[5]] = true;
        for (int h = 0; h < 24 && want == DryLand.NONE; h++) {
            int sx = a[0] + h * a[2];
            int sy = a[1] + h * a[3];
            boolean inSea = sx >= 0 && sx <= 30 && sy >= 0 && sy <= 30;
            want = inSea && sx < miles && boat[sx][sy] ? h : want;
            boat = spread(boat, a[6]);
        }
        Check.due("chase", x.chase(a[0], a[1], a[2], a[3], a[4], a[5], a[6]), want);
    }

    private static boolean[][] spread(boolean[][] from, int v) {
        boolean[][] to = new boolean[31][31];
        for (int x = 0; x < 31; x++) {
            for (int y = 0; y < 31; y++) {
                for (int dx = -v; dx <= v && from[x][y]; dx++) {
                    for (int dy = -v; dy <= v; dy++) {
                        if (x + dx >= 0 && x + dx <= 30 && y + dy >= 0 && y + dy <= 30) {
                            to[x + dx][y + dy] = true;
                        }
                    }
                }
            }
        }
        return to;
    }
}
