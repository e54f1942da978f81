import java.lang.reflect.Constructor;
import java.lang.reflect.Field;
import java.lang.reflect.Method;
import java.lang.reflect.Modifier;
import java.nio.file.Files;
import java.nio.file.Path;
import java.util.Arrays;
import java.util.List;
import java.util.TreeSet;
import java.util.regex.Matcher;
import java.util.regex.Pattern;

/** The face as the document lists it, the rules of LANGUAGE.md that a test can see, and wild calls. */
public final class FaceTest {
    private static final String[] FACE = {"int feed(long,long,long)", "int county()", "int round()",
        "int shot(int,int)", "int hall(int,int)", "int show()", "int give(int,int)", "boolean trade(int,int,int)",
        "int turn()", "boolean undo()", "int judged(int)", "int shown(int,int)", "int minutes(int)", "int silly()",
        "int lasts()", "boolean sense()", "int gone(int)", "int saves(int)", "int kin(int)", "int hoard(int)",
        "int longest()", "int order(int)", "int ride()", "int other(int)", "int mends()", "int where(int)",
        "int taste(int,int)", "int mild()", "boolean see(int,boolean)", "int halls()", "int ask()",
        "int rests(int,int,int,int)", "int share(int)", "int tours(int,int,int)", "boolean mark(int,boolean)",
        "int count(int)"};
    private static final int[] EDGES = {Integer.MIN_VALUE, -33, -32, -2, -1, 0, 1, 2, 3, 5, 6, 9, 10, 31, 32, 33, 64,
        1000, Integer.MAX_VALUE};

    public static void main(String[] args) throws Exception {
        members();
        names();
        words();
        wildCalls();
        Due.end();
    }

    private static String told(Method m) {
        StringBuilder text = new StringBuilder(m.getReturnType().getName() + " " + m.getName() + "(");
        for (Class<?> type : m.getParameterTypes()) {
            text.append(text.charAt(text.length() - 1) == '(' ? "" : ",").append(type.getName());
        }
        return text + ")";
    }

    private static void members() {
        int mods = CountyPrint.class.getModifiers();
        Due.due("public and final", Modifier.isPublic(mods) && Modifier.isFinal(mods), true);
        TreeSet<String> found = new TreeSet<>();
        for (Method m : CountyPrint.class.getDeclaredMethods()) {
            if (!Modifier.isPrivate(m.getModifiers())) {
                Due.due(told(m) + " is public", Modifier.isPublic(m.getModifiers()), true);
                found.add(told(m));
            }
        }
        Due.due("methods " + found, found.equals(new TreeSet<>(Arrays.asList(FACE))), true);
        Constructor<?>[] made = CountyPrint.class.getDeclaredConstructors();
        Due.due("one constructor", made.length, 1);
        Due.due("without parameters", made[0].getParameterCount(), 0);
        Due.due("public", Modifier.isPublic(made[0].getModifiers()), true);
        for (Field f : CountyPrint.class.getDeclaredFields()) {
            boolean isPrivate = Modifier.isPrivate(f.getModifiers());
            Due.due("field " + f.getName(), isPrivate || f.getName().equals("NONE"), true);
        }
    }

    private static void names() {
        List<String> face = Arrays.stream(FACE).map(m -> m.replaceAll(".* |\\(.*", "")).toList();
        int classes = 1;
        for (Class<?> inside : CountyPrint.class.getDeclaredClasses()) {
            classes++;
            Due.due(inside + " is static", Modifier.isStatic(inside.getModifiers()), true);
            for (Method m : inside.getDeclaredMethods()) {
                Due.due(m + " has a name of its own", face.contains(m.getName()), false);
                Due.due(m + " takes at most 7", m.getParameterCount() <= 7, true);
            }
            int fields = 0;
            for (Field f : inside.getDeclaredFields()) {
                fields += Modifier.isStatic(f.getModifiers()) ? 0 : 1;
                Due.due(f + " is no static state", !Modifier.isStatic(f.getModifiers())
                    || Modifier.isFinal(f.getModifiers()), true);
            }
            Due.due("fields of " + inside, fields <= 20, true);
        }
        Due.due("classes", classes <= 12, true);
        for (Method m : CountyPrint.class.getDeclaredMethods()) {
            boolean isOverloaded = Modifier.isPrivate(m.getModifiers()) && face.contains(m.getName());
            Due.due(m + " is no second one", isOverloaded, false);
        }
    }

    private static void words() throws Exception {
        String text = Files.readString(Path.of("src/main/java/CountyPrint.java"));
        String code = text.replaceAll("(?s)/\\*.*?\\*/", "").replaceAll("//[^\n]*", "");
        for (String word : new String[] {"catch", "finally", "->", "::", "synchronized", "assert", "volatile", "static {",
            "Exact", "System.currentTimeMillis", "System.nanoTime", "Random", "Thread", "hashCode", "toString",
            "double", "float", "ArrayList", "instanceof", "package "}) {
            Due.due("no " + word, code.contains(word), false);
        }
        Matcher imports = Pattern.compile("import ([^;]+);").matcher(code);
        while (imports.find()) {
            Due.due(imports.group(), imports.group(1).equals("java.util.NoSuchElementException"), true);
        }
        Matcher bodies = Pattern.compile("(?m)^( +)(?!static final|private static final class)[a-z].*\\) "
            + "(?:throws [A-Za-z]+ )?\\{\n(?:.*\n)*?\\1\\}").matcher(code);
        while (bodies.find()) {
            long lines = bodies.group().lines().count();
            Due.due("lines of " + bodies.group().lines().findFirst().orElse(""), lines <= 60, true);
        }
    }

    /** In three states, every call with every edge: nothing but what the document names is thrown. */
    private static void wildCalls() throws Exception {
        wildCalls("new", null);
        wildCalls("told", Counties.HATS);
        wildCalls("empty", "");
        wildCalls("no halls", "shot a sort 1 long 1;shot b sort 1 long 1;needs a b;");
        wildCalls("no shots", "hall h chapel hates 1;hall i miner hates 1;hall j keen hates 1;hall k plain hates 1;");
    }

    private static void wildCalls(String state, String county) throws Exception {
        for (Method m : CountyPrint.class.getDeclaredMethods()) {
            if (!Modifier.isPublic(m.getModifiers())) {
                continue;
            }
            int calls = (int) Math.pow(EDGES.length, Math.min(3, m.getParameterCount()));
            CountyPrint x = null;
            for (int n = 0; n < calls; n++) {
                if (n % 400 == 0) {
                    x = county == null ? new CountyPrint() : Due.of(county);
                    x.show();
                    x.mark(1, false);
                }
                call(state, x, m, n);
            }
        }
    }

    private static void call(String state, CountyPrint x, Method m, int n) throws Exception {
        Class<?>[] types = m.getParameterTypes();
        Object[] values = new Object[types.length];
        for (int i = 0; i < types.length; i++) {
            int edge = EDGES[n % EDGES.length];
            n = i < 2 ? n / EDGES.length : n + 7;
            values[i] = types[i] == long.class ? (Object) (edge * 0x100000001L)
                : types[i] == boolean.class ? (Object) (edge % 2 == 0) : (Object) edge;
        }
        String thrown = "";
        try {
            m.invoke(x, values);
        } catch (java.lang.reflect.InvocationTargetException e) {
            thrown = e.getCause().getClass().getSimpleName();
        }
        boolean mayThrow = m.getName().equals("saves") || m.getName().equals("rests");
        boolean isDue = thrown.isEmpty() || mayThrow && thrown.equals("NoSuchElementException");
        Due.due(state + ": " + m.getName() + Arrays.toString(values) + " throws " + thrown, isDue, true);
    }
}
