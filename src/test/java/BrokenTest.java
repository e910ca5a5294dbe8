import java.io.ByteArrayOutputStream;
import java.io.IOException;
import java.io.InputStream;
import java.io.OutputStream;
import java.lang.reflect.InvocationTargetException;
import java.lang.reflect.Method;
import java.net.URI;
import java.nio.charset.StandardCharsets;
import java.nio.file.Files;
import java.nio.file.Path;
import java.util.ArrayList;
import java.util.HashMap;
import java.util.List;
import java.util.Map;
import java.util.concurrent.ExecutionException;
import java.util.concurrent.ExecutorService;
import java.util.concurrent.Executors;
import java.util.concurrent.Future;
import java.util.concurrent.TimeUnit;
import java.util.concurrent.TimeoutException;
import javax.tools.FileObject;
import javax.tools.ForwardingJavaFileManager;
import javax.tools.JavaCompiler;
import javax.tools.JavaFileManager;
import javax.tools.JavaFileObject;
import javax.tools.SimpleJavaFileObject;
import javax.tools.StandardJavaFileManager;
import javax.tools.ToolProvider;

/**
 * Copies of the class that break one sentence each: the sentence's own calls must see it, so that they would fail
 * if the sentence did not hold. A copy whose words the class no longer has is told and passed over.
 */
public final class BrokenTest {
    private static final long MOST_SECONDS = 60;
    /** One for each worker: to open the library anew for each copy takes far longer than to compile it. */
    private static final ThreadLocal<StandardJavaFileManager> MANAGERS =
        ThreadLocal.withInitial(() -> ToolProvider.getSystemJavaCompiler().getStandardFileManager(problem -> { }, null, null));

    private static final class Source extends SimpleJavaFileObject {
        private final String text;

        Source(String text) {
            super(URI.create("string:///SlipSheets.java"), Kind.SOURCE);
            this.text = text;
        }

        @Override
        public CharSequence getCharContent(boolean ignoreEncodingErrors) {
            return text;
        }
    }

    private static final class Output extends SimpleJavaFileObject {
        private final ByteArrayOutputStream bytes = new ByteArrayOutputStream();

        Output(String name) {
            super(URI.create("mem:///" + name + ".class"), Kind.CLASS);
        }

        @Override
        public OutputStream openOutputStream() {
            return bytes;
        }
    }

    private static final class Outputs extends ForwardingJavaFileManager<StandardJavaFileManager> {
        private final Map<String, Output> all = new HashMap<>();

        Outputs(StandardJavaFileManager manager) {
            super(manager);
        }

        @Override
        public JavaFileObject getJavaFileForOutput(JavaFileManager.Location location, String name, JavaFileObject.Kind kind, FileObject sibling) {
            return all.computeIfAbsent(name, Output::new);
        }
    }

    /** The copy's classes, and the tests' own ones anew, so that they meet the copy. */
    private static final class Loader extends ClassLoader {
        private final Map<String, Output> copy;

        Loader(Map<String, Output> copy) {
            super(BrokenTest.class.getClassLoader());
            this.copy = copy;
        }

        @Override
        protected Class<?> loadClass(String name, boolean resolve) throws ClassNotFoundException {
            synchronized (getClassLoadingLock(name)) {
                Class<?> loaded = findLoadedClass(name);
                if (loaded != null) {
                    return loaded;
                }
                byte[] bytes = name.contains(".") ? null : bytesOf(name);
                return bytes == null ? super.loadClass(name, resolve) : defineClass(name, bytes, 0, bytes.length);
            }
        }

        private byte[] bytesOf(String name) throws ClassNotFoundException {
            if (copy.containsKey(name)) {
                return copy.get(name).bytes.toByteArray();
            }
            try (InputStream in = getParent().getResourceAsStream(name + ".class")) {
                return in == null ? null : in.readAllBytes();
            } catch (IOException unread) {
                throw new ClassNotFoundException(name, unread);
            }
        }
    }

    public static void main(String[] args) throws Exception {
        if (ToolProvider.getSystemJavaCompiler() == null) {
            System.out.println("BrokenTest: no compiler to make copies with");
            return;
        }
        String code = bare(Files.readString(Path.of("src/main/java/SlipSheets.java"), StandardCharsets.UTF_8));
        List<Book.Sentence> sentences = Book.whole().sentences;
        ExecutorService workers = Executors.newFixedThreadPool(Math.max(1, Math.min(8, Runtime.getRuntime().availableProcessors())), task -> {
            Thread thread = new Thread(task);
            thread.setDaemon(true);
            return thread;
        });
        List<Future<String>> told = new ArrayList<>();
        for (int i = 0; i < sentences.size(); i++) {
            for (Book.Copy copy : sentences.get(i).copies) {
                int sentence = i;
                String words = sentences.get(i).words;
                told.add(workers.submit(() -> told(code, sentence, words, copy)));
            }
        }
        int seen = 0;
        int passedOver = 0;
        int unseen = 0;
        for (Future<String> one : told) {
            String what = answer(one);
            seen += what.isEmpty() ? 1 : 0;
            passedOver += what.startsWith("passed over") ? 1 : 0;
            unseen += what.startsWith("unseen") ? 1 : 0;
            System.out.print(what.isEmpty() ? "" : what + "\n");
        }
        System.out.println("BrokenTest: " + seen + " broken copies are seen, " + unseen + " are not, " + passedOver + " are passed over");
        System.exit(unseen == 0 && seen > 0 ? 0 : 1);
    }

    /** What a copy that does not end would answer can't be told. */
    private static String answer(Future<String> one) throws InterruptedException, ExecutionException {
        try {
            return one.get(MOST_SECONDS, TimeUnit.SECONDS);
        } catch (TimeoutException endless) {
            return "passed over, endless";
        }
    }

    /** The code without comments, with single blanks, so that words are found however the lines are broken. */
    private static String bare(String source) {
        return source.replaceAll("(?s)/\\*.*?\\*/", "").replaceAll("//[^\n]*", "").replaceAll("\\s+", " ");
    }

    private static String told(String code, int sentence, String words, Book.Copy copy) throws Exception {
        int behind = code.indexOf(copy.behind());
        int at = behind < 0 ? -1 : code.indexOf(copy.old(), behind);
        String what = " \"" + copy.old() + "\" as \"" + copy.now() + "\" behind \"" + copy.behind() + "\", of \"" + words + "\"";
        if (at < 0) {
            return "passed over, not in the class:" + what;
        }
        Map<String, Output> classes = compile(code.substring(0, at) + copy.now() + code.substring(at + copy.old().length()));
        if (classes == null) {
            return "passed over, does not compile:" + what;
        }
        return wrongAnswers(classes, sentence) > 0 ? "" : "unseen:" + what;
    }

    private static Map<String, Output> compile(String text) {
        JavaCompiler compiler = ToolProvider.getSystemJavaCompiler();
        Outputs outputs = new Outputs(MANAGERS.get());
        boolean isFine = compiler.getTask(null, outputs, problem -> { }, List.of("-nowarn", "-proc:none"), null, List.of(new Source(text))).call();
        return isFine ? outputs.all : null;
    }

    private static int wrongAnswers(Map<String, Output> classes, int sentence) throws Exception {
        Method method = new Loader(classes).loadClass("Book").getDeclaredMethod("wrongAnswersTo", int.class);
        method.setAccessible(true);
        try {
            return (int) method.invoke(null, sentence);
        } catch (InvocationTargetException thrown) {
            return 1;
        }
    }
}
