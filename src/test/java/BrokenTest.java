import java.io.ByteArrayOutputStream;
import java.io.IOException;
import java.io.InputStream;
import java.io.OutputStream;
import java.lang.reflect.Constructor;
import java.lang.reflect.InvocationTargetException;
import java.lang.reflect.Method;
import java.net.URI;
import java.nio.file.Files;
import java.nio.file.Path;
import java.util.HashMap;
import java.util.List;
import java.util.Map;
import javax.tools.FileObject;
import javax.tools.ForwardingJavaFileManager;
import javax.tools.JavaCompiler;
import javax.tools.JavaFileManager;
import javax.tools.JavaFileObject;
import javax.tools.SimpleJavaFileObject;
import javax.tools.ToolProvider;

/** Tests the tests: each broken copy of the class that Breaks tells must be found by one that is written by hand. */
final class BrokenTest {
    private static final String[] TESTS = {"ShelfTest", "LifeTest", "WeekTest", "OutcomeTest", "ByRuleTest", "KeepTest",
        "TapeTest", "TermsTest", "FarTest"};

    private BrokenTest() {
    }

    static void runAll(Checks checks) throws IOException {
        checks.begin("broken");
        JavaCompiler compiler = ToolProvider.getSystemJavaCompiler();
        if (compiler == null) {
            System.out.println("broken copies are not tried: this java has no compiler in it");
            return;
        }
        String source = Files.readString(Path.of("src/main/java/NineDebts.java"));
        checks.yes("the class as it is passes", !isFound(compile(compiler, source)));
        int[] broken = new int[Breaks.PROMISES + 1];
        for (String[] b : Breaks.ALL) {
            int place = source.indexOf(b[1]);
            boolean isOnce = place >= 0 && place == source.lastIndexOf(b[1]);
            int at = source.indexOf(b[2], Math.max(0, place));
            checks.yes("stands once: " + b[1], isOnce);
            checks.yes("stands behind it: " + b[2], at >= 0);
            if (isOnce && at >= 0) {
                String copy = source.substring(0, at) + b[3] + source.substring(at + b[2].length());
                checks.yes("promise " + b[0] + " broken is found: " + b[1] + " " + b[2] + " -> " + b[3],
                        isFound(compile(compiler, copy)));
                broken[Integer.parseInt(b[0])]++;
            }
        }
        for (int p = 1; p <= Breaks.PROMISES; p++) {
            checks.yes("broken copies for promise " + p, broken[p] > 0);
        }
    }

    /** Whether a test fails, or stumbles, on these classes. */
    private static boolean isFound(Map<String, byte[]> classes) {
        ClassLoader loader = new Copies(classes);
        try {
            Class<?> type = loader.loadClass("Checks");
            Constructor<?> make = type.getDeclaredConstructor(boolean.class);
            make.setAccessible(true);
            Object checks = make.newInstance(false);
            Method failed = type.getDeclaredMethod("failed");
            failed.setAccessible(true);
            for (String test : TESTS) {
                Method run = loader.loadClass(test).getDeclaredMethod("runAll", type);
                run.setAccessible(true);
                run.invoke(null, checks);
                if ((Integer) failed.invoke(checks) > 0) {
                    return true;
                }
            }
            return false;
        } catch (InvocationTargetException e) {
            return true;
        } catch (ReflectiveOperationException e) {
            throw new IllegalStateException(e);
        }
    }

    private static Map<String, byte[]> compile(JavaCompiler compiler, String source) throws IOException {
        URI place = URI.create("string:///NineDebts.java");
        JavaFileObject text = new SimpleJavaFileObject(place, JavaFileObject.Kind.SOURCE) {
            @Override
            public CharSequence getCharContent(boolean ignoreEncodingErrors) {
                return source;
            }
        };
        try (Made made = new Made(compiler.getStandardFileManager(null, null, null))) {
            boolean isCompiled = compiler.getTask(null, made, null, List.of("-proc:none"), null, List.of(text)).call();
            if (!isCompiled) {
                throw new IllegalStateException("a broken copy doesn't compile");
            }
            return made.classes();
        }
    }

    /** Keeps the classes that are compiled. */
    private static final class Made extends ForwardingJavaFileManager<JavaFileManager> {
        private final Map<String, ByteArrayOutputStream> streams = new HashMap<>();

        Made(JavaFileManager files) {
            super(files);
        }

        @Override
        public JavaFileObject getJavaFileForOutput(Location where, String name, JavaFileObject.Kind kind,
                FileObject from) {
            return new SimpleJavaFileObject(URI.create("mem:///" + name + ".class"), kind) {
                @Override
                public OutputStream openOutputStream() {
                    ByteArrayOutputStream stream = new ByteArrayOutputStream();
                    streams.put(name, stream);
                    return stream;
                }
            };
        }

        Map<String, byte[]> classes() {
            Map<String, byte[]> classes = new HashMap<>();
            streams.forEach((name, stream) -> classes.put(name, stream.toByteArray()));
            return classes;
        }
    }

    /** A broken copy of the class, with tests of its own around it. */
    private static final class Copies extends ClassLoader {
        private final Map<String, byte[]> classes;

        Copies(Map<String, byte[]> classes) {
            super(ClassLoader.getPlatformClassLoader());
            this.classes = classes;
        }

        @Override
        protected Class<?> findClass(String name) throws ClassNotFoundException {
            byte[] bytes = classes.containsKey(name) ? classes.get(name) : test(name);
            return defineClass(name, bytes, 0, bytes.length);
        }

        private static byte[] test(String name) throws ClassNotFoundException {
            try (InputStream in = BrokenTest.class.getResourceAsStream("/" + name + ".class")) {
                if (in == null) {
                    throw new ClassNotFoundException(name);
                }
                return in.readAllBytes();
            } catch (IOException e) {
                throw new ClassNotFoundException(name, e);
            }
        }
    }
}
