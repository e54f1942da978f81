import java.io.ByteArrayOutputStream;
import java.io.File;
import java.io.IOException;
import java.io.OutputStream;
import java.io.PrintStream;
import java.net.URI;
import java.nio.file.Files;
import java.nio.file.Path;
import java.util.ArrayList;
import java.util.HashMap;
import java.util.HashSet;
import java.util.List;
import java.util.Map;
import java.util.Set;
import java.util.concurrent.ExecutorService;
import java.util.concurrent.Executors;
import java.util.concurrent.Future;
import java.util.concurrent.TimeUnit;
import java.util.concurrent.TimeoutException;
import javax.tools.FileObject;
import javax.tools.ForwardingJavaFileManager;
import javax.tools.JavaCompiler;
import javax.tools.JavaFileManager;
import javax.tools.JavaFileObject;
import javax.tools.SimpleJavaFileObject;
import javax.tools.ToolProvider;

/**
 * Tests the tests of boundary cases: each way in which src/test/broken.txt breaks the class must make
 * the tests fail that it names, and each test of a boundary case must be named there.
 */
public final class BrokenTest {
    private static final Path SOURCE = Path.of("src/main/java/CountyPrint.java");
    private static final Path WAYS = Path.of("src/test/broken.txt");
    private static final String[] TESTS = {"EdgesOfTellingTest", "EdgesByHandTest", "EdgesOfAskingTest"};
    private static final int PROMISES = 37;
    private static final int SECONDS = 60;

    /** The tests that must fail, and what is put in the place of what, behind the anchor. */
    private static final class Way {
        final int line;
        final String[] tests;
        String anchor = "";
        final List<String> from = new ArrayList<>();
        final List<String> to = new ArrayList<>();

        Way(int line, String[] tests) {
            this.line = line;
            this.tests = tests;
        }

        String told() {
            return WAYS + ":" + line + " (" + from + " to " + to + ")";
        }

        /** Null if what is to be replaced does not stand in the source. */
        String broken(String source) {
            int at = source.indexOf(anchor);
            String text = source;
            for (int i = 0; i < from.size() && at >= 0; i++) {
                at = text.indexOf(from.get(i), at);
                if (at >= 0) {
                    text = text.substring(0, at) + to.get(i) + text.substring(at + from.get(i).length());
                    at += to.get(i).length();
                }
            }
            return at < 0 || from.isEmpty() || from.size() != to.size() ? null : text;
        }
    }

    /** Sees the broken class, and of all else of this project a copy of its own. */
    private static final class Loader extends ClassLoader {
        private final Map<String, byte[]> classes;

        Loader(Map<String, byte[]> classes) {
            super(ClassLoader.getPlatformClassLoader());
            this.classes = classes;
        }

        @Override
        protected Class<?> findClass(String name) throws ClassNotFoundException {
            byte[] code = classes.get(name);
            try {
                if (code == null && !name.startsWith("CountyPrint")) {
                    code = bytesOf(name);
                }
            } catch (IOException e) {
                throw new ClassNotFoundException(name, e);
            }
            if (code == null) {
                throw new ClassNotFoundException(name);
            }
            return defineClass(name, code, 0, code.length);
        }

        private static byte[] bytesOf(String name) throws IOException {
            for (String part : System.getProperty("java.class.path").split(File.pathSeparator)) {
                Path file = Path.of(part, name + ".class");
                if (Files.exists(file)) {
                    return Files.readAllBytes(file);
                }
            }
            return null;
        }
    }

    private static final class Source extends SimpleJavaFileObject {
        private final String text;

        Source(String text) {
            super(URI.create("string:///CountyPrint.java"), Kind.SOURCE);
            this.text = text;
        }

        @Override
        public CharSequence getCharContent(boolean ignoreEncodingErrors) {
            return text;
        }
    }

    private static final class Compiled extends SimpleJavaFileObject {
        private final ByteArrayOutputStream bytes = new ByteArrayOutputStream();

        Compiled(String name) {
            super(URI.create("bytes:///" + name + ".class"), Kind.CLASS);
        }

        @Override
        public OutputStream openOutputStream() {
            return bytes;
        }
    }

    private static final class Kept extends ForwardingJavaFileManager<JavaFileManager> {
        private final Map<String, Compiled> classes = new HashMap<>();

        Kept(JavaFileManager below) {
            super(below);
        }

        @Override
        public JavaFileObject getJavaFileForOutput(Location location, String name, JavaFileObject.Kind kind,
            FileObject sibling) {
            return classes.computeIfAbsent(name, Compiled::new);
        }
    }

    private BrokenTest() {
    }

    public static void main(String[] args) throws Exception {
        PrintStream out = System.out;
        System.setOut(new PrintStream(OutputStream.nullOutputStream()));
        List<Way> ways = ways();
        String source = Files.readString(SOURCE);
        ExecutorService workers = Executors.newFixedThreadPool(Runtime.getRuntime().availableProcessors(), task -> {
            Thread thread = new Thread(task);
            thread.setDaemon(true);
            return thread;
        });
        List<Future<List<String>>> answers = new ArrayList<>();
        for (Way way : ways) {
            answers.add(workers.submit(() -> judged(way, source)));
        }
        List<String> wrong = new ArrayList<>(unnamed(ways));
        for (int i = 0; i < ways.size(); i++) {
            try {
                wrong.addAll(answers.get(i).get(SECONDS, TimeUnit.SECONDS));
            } catch (TimeoutException e) {
                wrong.add(ways.get(i).told() + " does not end");
            }
        }
        System.setOut(out);
        wrong.forEach(out::println);
        out.println(ways.size() + " ways to break the class, " + wrong.size() + " not as due");
        System.exit(wrong.isEmpty() ? 0 : 1);
    }

    private static List<Way> ways() throws IOException {
        List<Way> all = new ArrayList<>();
        List<String> lines = Files.readAllLines(WAYS);
        for (int i = 0; i < lines.size(); i++) {
            String line = lines.get(i);
            String rest = line.length() > 2 ? line.substring(2) : "";
            if (line.startsWith("p")) {
                all.add(new Way(i + 1, line.split(" ")));
            } else if (line.startsWith("@")) {
                all.get(all.size() - 1).anchor = rest;
            } else if (line.startsWith("-")) {
                all.get(all.size() - 1).from.add(rest);
            } else if (line.startsWith("+")) {
                all.get(all.size() - 1).to.add(rest);
            }
        }
        return all;
    }

    /** What is not as due of one way to break the class. */
    private static List<String> judged(Way way, String source) {
        List<String> wrong = new ArrayList<>();
        String text = way.broken(source);
        Map<String, byte[]> classes = text == null ? null : compiled(text);
        if (classes == null) {
            wrong.add(way.told() + (text == null ? " stands no more in the source" : " can't be compiled"));
            return wrong;
        }
        for (String test : way.tests) {
            if (!fails(new Loader(classes), test)) {
                wrong.add(way.told() + " is not seen by " + test);
            }
        }
        return wrong;
    }

    private static Map<String, byte[]> compiled(String text) {
        JavaCompiler compiler = ToolProvider.getSystemJavaCompiler();
        Kept kept = new Kept(compiler.getStandardFileManager(null, null, null));
        PrintStream none = new PrintStream(OutputStream.nullOutputStream());
        boolean isRight = compiler.getTask(new java.io.PrintWriter(none), kept, diagnostic -> { }, null, null,
            List.of(new Source(text))).call();
        Map<String, byte[]> classes = new HashMap<>();
        kept.classes.forEach((name, code) -> classes.put(name, code.bytes.toByteArray()));
        return isRight ? classes : null;
    }

    private static boolean fails(Loader loader, String test) {
        try {
            for (String name : TESTS) {
                for (java.lang.reflect.Method m : loader.loadClass(name).getDeclaredMethods()) {
                    if (m.getName().equals(test)) {
                        java.lang.reflect.Method judge = loader.loadClass("Edges")
                            .getDeclaredMethod("fails", java.lang.reflect.Method.class);
                        judge.setAccessible(true);
                        return (Boolean) judge.invoke(null, m);
                    }
                }
            }
        } catch (ReflectiveOperationException e) {
            throw new IllegalStateException(test, e);
        }
        return false;
    }

    /** Tests that no way names, ways that name no test, and promises without a test. */
    private static List<String> unnamed(List<Way> ways) throws ClassNotFoundException {
        List<String> wrong = new ArrayList<>();
        Set<String> named = new HashSet<>();
        ways.forEach(way -> named.addAll(List.of(way.tests)));
        Set<String> promises = new HashSet<>();
        for (String name : TESTS) {
            for (java.lang.reflect.Method m : Edges.of(Class.forName(name))) {
                promises.add(m.getName().substring(0, 3));
                if (!named.remove(m.getName())) {
                    wrong.add(m.getName() + ": no way to break the class is told for it");
                }
            }
        }
        named.forEach(name -> wrong.add(name + " is no test"));
        for (int promise = 1; promise <= PROMISES; promise++) {
            String start = String.format("p%02d", promise);
            if (!promises.contains(start)) {
                wrong.add(start + ": no test of a boundary case");
            }
        }
        return wrong;
    }
}
