import java.lang.reflect.Method;
import java.util.ArrayList;
import java.util.Arrays;
import java.util.HashMap;
import java.util.List;
import java.util.Map;
import java.util.Random;

/** Runs of 512 calls of all parts in turn (of a fixed seed) on the class and on the model: all answers are the same. */
public final class ModelTest {
    private static final int RUNS = 600;
    private static final int CALLS = 512;

    /** Of each call its name and, of each parameter, the least and the greatest that is taken at most. */
    private static final String[] CALLS_TOLD = {
        "1 strike 0 23 0 99", "1 line 0 23 0 6", "1 stops 0 3 0 3 0 99 0 4 0 99", "1 why 0 3 0 3 0 99 0 4 0 99",
        "1 why 0 3 0 3 50 99 0 4 20 60",
        "1 force 0 99", "1 text 0 3 0 2 0 3 0 16",
        "2 step 0 11 0 11 0 3 0 3 0 99 0 4", "2 step 0 3 0 3 0 3 0 3 0 99 3 4",
        "2 step 0 3 11 11 0 3 0 3 0 99 3 4", "2 least 0 99 -1 4", "2 least 0 99 -1 2", "2 least 0 99 -1 -1", "2 more 0 99 0 3 0 2 0 3 0 16",
        "3 doctor 1 24", "3 doctor 1 2", "3 slip 0 5 0 999 0 99", "3 slip 0 2 0 9 0 1", "3 slip 0 2 0 9 0 1",
        "3 twice", "3 tooMany 0 5 -1 2",
        "4 agent 0 3 0 2 0 4 1 12", "4 truck 0 11 -1 1 0 3 0 2 0 4 1 12", "4 came 0 11 -1 1", "4 meets 0 11",
        "4 worlds", "4 sure 0 1 0 11",
        "5 cask 0 2 0 99", "5 person", "5 drank 0 11 0 11 0 99", "5 drank 0 3 0 4 0 50", "5 fell 0 11 B 0 99",
        "5 fell 0 3 B 0 50", "5 cut 0 99 0 5", "5 knew 0 11",
        "6 raid B", "6 paper 1 63", "6 paper 1 16777215", "6 met 0 23 B", "6 voids", "6 saved 0 23", "6 worst",
        "7 court 1 4 1 600", "7 sue 1 600 0 99 0 9", "7 sue 1 300 0 3 0 2", "7 heard 0 29 0 4", "7 waiting 0 99",
        "7 waiting 0 9", "7 juror 0 20 1 20", "7 juror 0 1 1 9", "7 dismiss", "7 jury 0 2 0 1",
        "8 miles 1 30", "8 chase 0 30 0 30 -3 3 -3 3 0 30 0 30 1 5", "8 town 0 99 0 999", "8 week 0 5 0 999",
        "8 week 0 5 0 60", "8 week 0 1 900 999", "8 ofTown 0 5 0 4",
        "9 sheet 0 3 0 2 0 60", "9 lose 0 3", "9 put 0 3 0 20 -200 200", "9 put 0 3 0 20 -99999 99999",
        "9 cell 0 3 0 20 0 2", "9 tell 0 11", "9 hang 0 11", "9 as 0 11 0 2", "9 trace", "9 fault", "9 many 0 11"};

    private static final Map<String, Method> OF_CLASS = methods(DryLand.class);
    private static final Map<String, Method> OF_MODEL = methods(Model.class);

    private final Random random;
    private final DryLand land = new DryLand();
    private final Model model = new Model();
    private final int run;
    private final int wildness;
    private int made = 0;

    private ModelTest(Random random, int run) {
        this.random = random;
        this.run = run;
        this.wildness = random.nextInt(12);
    }

    public static void main(String[] args) throws Exception {
        Random random = new Random(1933);
        Check.due("calls of the face", OF_CLASS.size(), 53);
        for (String name : OF_CLASS.keySet()) {
            boolean isTold = Arrays.stream(CALLS_TOLD).anyMatch(told -> told.split(" ")[1].equals(name));
            Check.holds(name + " is told and modelled", isTold && OF_MODEL.containsKey(name));
        }
        for (int run = 0; run < RUNS; run++) {
            new ModelTest(random, run).go();
        }
        Check.end();
    }

    private static Map<String, Method> methods(Class<?> of) {
        Map<String, Method> methods = new HashMap<>();
        for (Method method : of.getMethods()) {
            if (method.getDeclaringClass() == of) {
                methods.put(method.getName(), method);
            }
        }
        return methods;
    }

    /** A run is of all parts, or keeps to two of them (and the sheets), so that they fill. */
    private void go() throws Exception {
        String parts = run % 3 == 0 ? "123456789" : "9" + (1 + random.nextInt(8)) + (1 + random.nextInt(8));
        List<String> calls = new ArrayList<>();
        for (String told : CALLS_TOLD) {
            if (parts.indexOf(told.charAt(0)) >= 0) {
                calls.add(told);
            }
        }
        while (made < CALLS) {
            boolean wantsRows = parts.matches(".*[124].*");
            if (wantsRows && random.nextInt(12) == 0) {
                useRow(parts.charAt(random.nextInt(parts.length())));
            } else {
                String told = calls.get(random.nextInt(calls.size()));
                // The sheets have the most calls, but the least that comes of them.
                callTold(told.charAt(0) == '9' ? calls.get(random.nextInt(calls.size())) : told);
            }
        }
    }

    private void callTold(String told) throws Exception {
        String[] words = told.split(" ");
        // Jurors are sent home but rarely, so that there come to be twelve of them.
        if (words[1].equals("dismiss") && random.nextInt(20) > 0) {
            return;
        }
        List<Object> arguments = new ArrayList<>();
        for (int k = 2; k < words.length; k++) {
            if (words[k].equals("B")) {
                arguments.add(random.nextBoolean());
            } else {
                arguments.add(number(Integer.parseInt(words[k]), Integer.parseInt(words[k + 1])));
                k++;
            }
        }
        call(words[1], arguments.toArray());
    }

    private int number(int least, int greatest) {
        if (random.nextInt(100) >= wildness) {
            // What is numbered as it comes is rarely there in full, so small numbers are asked for more.
            int end = random.nextBoolean() ? greatest : Math.min(greatest, Math.max(least, 3));
            return least + random.nextInt(end - least + 1);
        }
        int[] wild = {least - 1, greatest + 1, Integer.MIN_VALUE, Integer.MAX_VALUE, least, greatest};
        return wild[random.nextInt(wild.length)];
    }

    private void call(String name, Object... arguments) throws Exception {
        if (made == CALLS) {
            return;
        }
        made++;
        long got = ((Number) OF_CLASS.get(name).invoke(land, arguments)).longValue();
        long want = ((Number) OF_MODEL.get(name).invoke(model, arguments)).longValue();
        Check.due("run " + run + ", call " + made + ": " + name + Arrays.toString(arguments), got, want);
    }

    /** A row is written and then taken for a LINE, an AGENT or a TRUCK, or asked of. */
    private void useRow(char part) throws Exception {
        int sheet = random.nextInt(4);
        int lane = random.nextInt(3);
        int ahead = random.nextInt(3);
        int[] row = part == '4' ? places() : codes();
        call("sheet", sheet, lane, ahead + row.length + random.nextInt(3));
        for (int k = 0; k < row.length; k++) {
            call("put", sheet, ahead + k, row[k]);
        }
        if (part == '4') {
            if (random.nextBoolean()) {
                call("agent", sheet, lane, ahead, row.length);
            }
            int came = random.nextInt(4) == 0 ? 0 : random.nextInt(3) - 1;
            call("truck", random.nextInt(12), came, sheet, lane, ahead, row.length);
        } else {
            call("more", random.nextInt(100), sheet, lane, ahead, row.length);
            // One row makes several LINES, so that there come to be 24 of them.
            for (int k = random.nextInt(4); k >= 0; k--) {
                call("text", sheet, lane, ahead, row.length);
            }
        }
        call("fault");
    }

    private int[] places() {
        int[] places = new int[1 + random.nextInt(random.nextBoolean() ? 3 : 12)];
        for (int k = 0; k < places.length; k++) {
            places[k] = random.nextInt(60) == 0 ? 10 : random.nextInt(10);
        }
        return places;
    }

    private int[] codes() {
        StringBuilder text = new StringBuilder();
        text.append("msck".charAt(random.nextInt(4))).append("0123***".charAt(random.nextInt(7)));
        if (random.nextBoolean()) {
            text.append('>').append(random.nextInt(100));
        }
        int from = random.nextBoolean() ? random.nextInt(3) : random.nextInt(70);
        text.append('@').append(from).append('-').append(random.nextInt(100));
        if (random.nextBoolean()) {
            String letters = "dpevdvpe";
            int first = random.nextInt(letters.length() - 1);
            text.append('!').append(letters, first, Math.min(letters.length(), first + 1 + random.nextInt(4)));
        }
        int[] codes = text.chars().toArray();
        if (random.nextInt(3) == 0) {
            String signs = "msck0189*>@-!dpevx";
            codes[random.nextInt(codes.length)] = random.nextInt(6) == 0 ? random.nextInt(512) - 256
                : signs.charAt(random.nextInt(signs.length()));
        }
        return random.nextInt(8) == 0 ? Arrays.copyOf(codes, random.nextInt(codes.length)) : codes;
    }
}
