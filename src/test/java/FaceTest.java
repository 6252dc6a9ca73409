import java.lang.reflect.Constructor;
import java.lang.reflect.Field;
import java.lang.reflect.Method;
import java.lang.reflect.Modifier;
import java.nio.file.Files;
import java.nio.file.Path;
import java.util.ArrayList;
import java.util.List;
import java.util.TreeSet;
import java.util.regex.Matcher;
import java.util.regex.Pattern;

/** The face of the document, no more and no less; and what LANGUAGE.md rules out by words. */
public final class FaceTest {
    private static final String FACE = """
        public int text(int sheet, int lane, int i, int n);
        public int strike(int l, int day);
        public int line(int l, int what);
        public int stops(int verb, int kind, int strength, int who, int day);
        public int why(int verb, int kind, int strength, int who, int day);
        public int force(int day);
        public int step(int from, int to, int verb, int kind, int strength, int who);
        public int least(int day, int i);
        public int more(int day, int sheet, int lane, int i, int n);
        public int doctor(int hours);
        public int slip(int doctor, int number, int day);
        public int twice();
        public int tooMany(int doctor, int i);
        public int agent(int sheet, int lane, int i, int n);
        public int truck(int hour, int came, int sheet, int lane, int i, int n);
        public int came(int truck, int is);
        public int meets(int truck);
        public int worlds();
        public int sure(int who, int n);
        public int cask(int kind, int strength);
        public int person();
        public int drank(int person, int cask, int known);
        public int fell(int person, boolean ill, int known);
        public int cut(int day, int what);
        public int knew(int cask);
        public int raid(boolean met);
        public int paper(int by);
        public int met(int p, boolean is);
        public int voids();
        public int saved(int p);
        public int worst();
        public int court(int judges, int minutes);
        public int sue(int minutes, int day, int rank);
        public int heard(int c, int what);
        public int waiting(int day);
        public int juror(int p, int q);
        public int dismiss();
        public long jury(int what, int which);
        public int miles(int m);
        public int chase(int x, int y, int dx, int dy, int bx, int by, int v);
        public int town(int habit, int stock);
        public int week(int t, int comes);
        public int ofTown(int t, int what);
        public int sheet(int k, int lane, int n);
        public int lose(int k);
        public int put(int k, int i, int v);
        public long cell(int k, int i, int lane);
        public int tell(int c);
        public int hang(int c);
        public int as(int c, int kind);
        public int trace();
        public int fault();
        public int many(int what);
        """;
    private static final String[] CONSTANTS = {"UNKNOWN", "OUTSIDE", "STATE", "FULL", "NONE", "LOST"};
    private static final String[] RULED_OUT = {"throw", "throws", "try", "catch", "synchronized", "assert", "Object",
        "Exact", "hashCode", "System.out", "Random", "double", "float", "->\\s*\\{", "::", "\\bvar\\b"};

    public static void main(String[] args) throws Exception {
        Check.holds("public and final", Modifier.isPublic(DryLand.class.getModifiers())
            && Modifier.isFinal(DryLand.class.getModifiers()));
        constants();
        constructors();
        methods();
        classesInside();
        words();
        Check.end();
    }

    private static void constants() throws Exception {
        long[] want = {-1, -2, -3, -4, -9, Long.MIN_VALUE};
        for (int k = 0; k < CONSTANTS.length; k++) {
            Check.due(CONSTANTS[k], DryLand.class.getField(CONSTANTS[k]).getLong(null), want[k]);
        }
        for (Field field : DryLand.class.getDeclaredFields()) {
            boolean isTold = List.of(CONSTANTS).contains(field.getName());
            Check.holds("field " + field.getName(), isTold != Modifier.isPrivate(field.getModifiers()));
        }
    }

    private static void constructors() {
        Constructor<?>[] all = DryLand.class.getDeclaredConstructors();
        Check.due("constructors", all.length, 1);
        Check.due("its parameters", all[0].getParameterCount(), 0);
        Check.holds("it is public", Modifier.isPublic(all[0].getModifiers()));
    }

    private static void methods() {
        TreeSet<String> want = new TreeSet<>();
        Matcher matcher = Pattern.compile("public (int|long) (\\w+)\\((.*)\\);").matcher(FACE);
        while (matcher.find()) {
            want.add(matcher.group(1) + " " + matcher.group(2) + "("
                + matcher.group(3).replaceAll("(int|boolean) \\w+", "$1").replace(" ", "") + ")");
        }
        Check.due("methods told", want.size(), 53);
        TreeSet<String> got = new TreeSet<>();
        for (Method method : DryLand.class.getDeclaredMethods()) {
            if (!Modifier.isPrivate(method.getModifiers())) {
                got.add(method.getReturnType() + " " + method.getName() + "(" + types(method) + ")");
            }
        }
        Check.holds("the face: " + got, got.equals(want));
    }

    private static String types(Method method) {
        List<String> types = new ArrayList<>();
        for (Class<?> type : method.getParameterTypes()) {
            types.add(type.getName());
        }
        return String.join(",", types);
    }

    private static void classesInside() {
        Class<?>[] inside = DryLand.class.getDeclaredClasses();
        Check.holds("some twelve classes", inside.length <= 11);
        TreeSet<String> face = new TreeSet<>();
        for (Method method : DryLand.class.getMethods()) {
            face.add(method.getName());
        }
        for (Class<?> one : inside) {
            Check.holds(one + " is static", Modifier.isStatic(one.getModifiers()));
            Check.holds(one + " is private", Modifier.isPrivate(one.getModifiers()));
            int fields = 0;
            for (Field field : one.getDeclaredFields()) {
                boolean isStatic = Modifier.isStatic(field.getModifiers());
                Check.holds(field + " is final", !isStatic || Modifier.isFinal(field.getModifiers()));
                fields += isStatic ? 0 : 1;
            }
            Check.holds(one + " has some twenty fields", fields <= 20);
            for (Method method : one.getDeclaredMethods()) {
                Check.holds(method + " has no name of the face", !face.contains(method.getName()));
                Check.holds(method + " takes at most seven", method.getParameterCount() <= 7);
            }
        }
    }

    private static void words() throws Exception {
        String source = Files.readString(Path.of("src/main/java/DryLand.java"));
        String code = source.replaceAll("(?s)/\\*.*?\\*/", "").replaceAll("//.*", "");
        for (String word : RULED_OUT) {
            String pattern = Character.isLetter(word.charAt(0)) ? "\\b" + word + "\\b" : word;
            Check.holds("without " + word, !Pattern.compile(pattern).matcher(code).find());
        }
        Matcher imports = Pattern.compile("import (.*);").matcher(code);
        while (imports.find()) {
            Check.holds("import " + imports.group(1), imports.group(1).equals("java.util.Arrays"));
        }
    }
}
