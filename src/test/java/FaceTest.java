import java.io.IOException;
import java.lang.reflect.Constructor;
import java.lang.reflect.Field;
import java.lang.reflect.Method;
import java.lang.reflect.Modifier;
import java.nio.file.Files;
import java.nio.file.Path;
import java.util.ArrayList;
import java.util.Arrays;
import java.util.List;
import java.util.TreeSet;
import java.util.regex.Matcher;
import java.util.regex.Pattern;

/** The document's face, and those rules of LANGUAGE.md that can be seen from outside or in the source's words. */
public final class FaceTest {
    private static final String FACE = """
        public int feed(int a, int b, int c, int d, int e);
        public int end(int n);
        public int text(int sort, int at);
        public int fault(int what);
        public int about(int catalogue, int what);
        public int speed(int catalogue, int thing);
        public int entry(int catalogue, int thing, int rung, boolean year);
        public boolean has(int catalogue, int thing, int rung, int raw, int year);
        public boolean lean(int house, int rung, int percent);
        public boolean cast(int house, int thing, boolean out);
        public int of(int house, int what);
        public int scale(int catalogue, int house, int year, int rung);
        public int far(int catalogue, int house, int year, int thing, int rung);
        public long line(int catalogue, int house, int year, int what);
        public int left(int catalogue, int house, int year, int thing);
        public long spread(int catalogue, int house, int year);
        public long without(int catalogue, int house, int year, int thing);
        public long span(int catalogue, int house, int year, boolean high);
        public int odd(int catalogue, int house, int year, boolean heavy);
        public int age(int catalogue, int house, int year);
        public int barred(int catalogue, int house, int year);
        public long up(int catalogue, int house, int year, int rung);
        public int worst(int catalogue, int house, int year);
        public int part(int catalogue, int a, int b, int year);
        public boolean agree(int catalogue, int a, int b, int year);
        public int since(int catalogue, int house);
        public int stands(int catalogue, int house, int p);
        public int sorts(int catalogue, int house, int year, int rung, int what);
        public int sky(int sky, int what);
        public int seen(int sky, int far);
        public long chosen(int sky, int far, boolean all, boolean under);
        public int make(int sky, int at, int seed);
        public long worlds(int sky, int house, int seed, int n, int what);
        public int chance(int catalogue, int house, int year);
        public int alike(int catalogue, int house, int year, int rung);
        public int heaps(int catalogue, int house, int year, int rung, int f);
        public long middle(int catalogue, int house, int year);
        public int across(int catalogue, int a, int b, int year);
        public long path(int catalogue, int a, int b, int year, int r);
        public int strait(int catalogue, int house, int year);
        public int changes(int catalogue, int house);
        public int next(int catalogue, int house, int year);
        public int say(int house, int year, int low, int high);
        public int kept(int catalogue, int what);
        public long beside(int catalogue, int house, int year, int low, int high);
        public int count(int what);
        public boolean image(int k);
        public boolean again(int k);
        """;

    private static String signature(Method m) {
        List<String> types = new ArrayList<>();
        for (Class<?> type : m.getParameterTypes()) {
            types.add(type.getName());
        }
        return m.getReturnType().getName() + " " + m.getName() + types;
    }

    private static void theFace() {
        TreeSet<String> due = new TreeSet<>();
        Matcher m = Pattern.compile("public (\\w+) (\\w+)\\(([^)]*)\\);").matcher(FACE);
        while (m.find()) {
            List<String> types = new ArrayList<>();
            for (String one : m.group(3).split(", ")) {
                types.add(one.split(" ")[0]);
            }
            due.add(m.group(1) + " " + m.group(2) + types);
        }
        Due.due("promised methods", due.size(), 48);
        TreeSet<String> open = new TreeSet<>();
        TreeSet<String> names = new TreeSet<>();
        for (Method method : LadderSky.class.getDeclaredMethods()) {
            if (!Modifier.isPrivate(method.getModifiers()) && !method.isSynthetic()) {
                open.add(signature(method));
                names.add(method.getName());
                Due.due("public and of the object: " + method, method.getModifiers(), Modifier.PUBLIC);
            }
        }
        Due.due("the methods are those promised", open.equals(due), true);
        noOtherOfThatName(LadderSky.class, names);
        for (Field field : LadderSky.class.getDeclaredFields()) {
            boolean none = field.getName().equals("NONE");
            Due.due("open: " + field, !Modifier.isPrivate(field.getModifiers()), none);
        }
        Due.due("NONE", LadderSky.NONE, -1);
        Constructor<?>[] made = LadderSky.class.getDeclaredConstructors();
        Due.due("constructors", made.length, 1);
        Due.due("public", made[0].getModifiers(), Modifier.PUBLIC);
        Due.due("class", LadderSky.class.getModifiers(), Modifier.PUBLIC | Modifier.FINAL);
        Due.due("few classes", LadderSky.class.getDeclaredClasses().length <= 12, true);
        for (Class<?> inner : LadderSky.class.getDeclaredClasses()) {
            Due.due("static: " + inner, Modifier.isStatic(inner.getModifiers()), true);
            Due.due("not open: " + inner, Modifier.isPublic(inner.getModifiers()) || Modifier.isProtected(inner.getModifiers()), false);
            noOtherOfThatName(inner, names);
            Due.due("no class within " + inner, inner.getDeclaredClasses().length, 0);
        }
    }

    private static void noOtherOfThatName(Class<?> of, TreeSet<String> names) {
        for (Method method : of.getDeclaredMethods()) {
            if (of != LadderSky.class || Modifier.isPrivate(method.getModifiers())) {
                Due.due("a promised name again: " + method, names.contains(method.getName()), false);
            }
            Due.due("parameters of " + method, method.getParameterCount() <= 7, true);
        }
        int fields = 0;
        for (Field field : of.getDeclaredFields()) {
            fields += Modifier.isStatic(field.getModifiers()) ? 0 : 1;
            if (Modifier.isStatic(field.getModifiers())) {
                Due.due("final: " + field, Modifier.isFinal(field.getModifiers()), true);
            }
        }
        Due.due("fields of " + of, fields <= 20, true);
    }

    private static void theWords() throws IOException {
        String source = Files.readString(Path.of("src/main/java/LadderSky.java"));
        String bare = source.replaceAll("(?s)/\\*.*?\\*/", "").replaceAll("//[^\n]*", "").replaceAll("\"[^\"\n]*\"", "\"\"");
        for (String word : List.of("throw", "throws", "try", "catch", "finally", "synchronized", "assert", "import", "package", "record", "instanceof",
            "equals", "hashCode", "toString", "double", "float", "volatile", "native", "protected", "Object", "Thread", "Random")) {
            Due.due("the word " + word, Pattern.compile("\\b" + word + "\\b").matcher(bare).find(), false);
        }
        Due.due("no lambda", bare.contains("->"), false);
        Due.due("no method reference", bare.contains("::"), false);
        TreeSet<String> library = new TreeSet<>();
        Matcher m = Pattern.compile("\\b(Math|System|Integer|Long|Arrays)\\.(\\w+)").matcher(bare);
        while (m.find()) {
            library.add(m.group());
        }
        library.removeAll(Arrays.asList("Math.max", "Math.min", "System.arraycopy"));
        Due.due("no other library: " + library, library.size(), 0);
        int longest = 0;
        int start = 0;
        String[] lines = source.split("\n");
        for (int i = 0; i < lines.length; i++) {
            if (lines[i].matches("( {4}| {8})[\\w\\[\\]].*\\) \\{")) {
                start = i;
            } else if (lines[i].matches("( {4}| {8})\\}")) {
                longest = Math.max(longest, i - start);
            }
        }
        Due.due("methods stay short: " + longest, longest <= 60, true);
    }

    public static void main(String[] args) throws IOException {
        theFace();
        theWords();
        Due.close("FaceTest");
    }
}
