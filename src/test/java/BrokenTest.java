import java.io.ByteArrayOutputStream;
import java.io.IOException;
import java.io.InputStream;
import java.io.OutputStream;
import java.lang.reflect.InvocationTargetException;
import java.lang.reflect.Method;
import java.net.URI;
import java.nio.file.Files;
import java.nio.file.Path;
import java.util.ArrayList;
import java.util.List;
import java.util.Map;
import java.util.concurrent.Callable;
import java.util.concurrent.ConcurrentHashMap;
import java.util.concurrent.ExecutionException;
import java.util.concurrent.ExecutorService;
import java.util.concurrent.Executors;
import java.util.concurrent.Future;
import javax.tools.FileObject;
import javax.tools.ForwardingJavaFileManager;
import javax.tools.JavaCompiler;
import javax.tools.JavaFileManager;
import javax.tools.JavaFileObject;
import javax.tools.SimpleJavaFileObject;
import javax.tools.ToolProvider;

/** Breaks the class as each test of edges tells, and looks whether that test fails with the class so broken. */
public final class BrokenTest {
  private static final String NAME = "GathersAllFaults";

  private static final class Source extends SimpleJavaFileObject {
    private final String text;

    Source(String text) {
      super(URI.create("string:///" + NAME + ".java"), Kind.SOURCE);
      this.text = text;
    }

    @Override
    public CharSequence getCharContent(boolean ignoreErrors) {
      return text;
    }
  }

  private static final class Compiled extends SimpleJavaFileObject {
    private final ByteArrayOutputStream bytes = new ByteArrayOutputStream();

    Compiled(String name) {
      super(URI.create("bytes:///" + name), Kind.CLASS);
    }

    @Override
    public OutputStream openOutputStream() {
      return bytes;
    }
  }

  private static final class Store extends ForwardingJavaFileManager<JavaFileManager> {
    private final Map<String, Compiled> made = new ConcurrentHashMap<>();

    Store(JavaFileManager manager) {
      super(manager);
    }

    @Override
    public JavaFileObject getJavaFileForOutput(Location where, String name, JavaFileObject.Kind kind, FileObject by) {
      return made.computeIfAbsent(name, Compiled::new);
    }
  }

  /** Loads the broken class, and all other classes of the tests anew, so that they meet the broken one. */
  private static final class Loader extends ClassLoader {
    private final Map<String, Compiled> made;

    Loader(Map<String, Compiled> made) {
      super(ClassLoader.getPlatformClassLoader());
      this.made = made;
    }

    @Override
    protected Class<?> findClass(String name) throws ClassNotFoundException {
      byte[] bytes = made.containsKey(name) ? made.get(name).bytes.toByteArray() : bytesOf(name);
      return defineClass(name, bytes, 0, bytes.length);
    }

    private static byte[] bytesOf(String name) throws ClassNotFoundException {
      try (InputStream in = BrokenTest.class.getResourceAsStream(name + ".class")) {
        if (in == null) {
          throw new ClassNotFoundException(name);
        }
        return in.readAllBytes();
      } catch (IOException e) {
        throw new ClassNotFoundException(name, e);
      }
    }
  }

  private static Map<String, Compiled> compile(String source) throws IOException {
    JavaCompiler compiler = ToolProvider.getSystemJavaCompiler();
    try (Store store = new Store(compiler.getStandardFileManager(null, null, null))) {
      StringBuilder said = new StringBuilder();
      boolean fine = compiler.getTask(new Appender(said), store, null, List.of("-Xlint:none"), null,
          List.of(new Source(source))).call();
      if (!fine) {
        throw new IllegalStateException("the broken class does not compile: " + said);
      }
      return store.made;
    }
  }

  private static final class Appender extends java.io.Writer {
    private final StringBuilder into;

    Appender(StringBuilder into) {
      this.into = into;
    }

    @Override
    public void write(char[] signs, int from, int many) {
      into.append(signs, from, many);
    }

    @Override
    public void flush() {
    }

    @Override
    public void close() {
    }
  }

  private static String broken(String source, Edges.Broken how) {
    int in = source.indexOf(how.in());
    if (in < 0 || source.indexOf(how.in(), in + 1) >= 0) {
      throw new IllegalStateException("not there just once: " + how.in());
    }
    int at = source.indexOf(how.find(), in);
    if (at < 0) {
      throw new IllegalStateException("not there behind " + how.in() + ": " + how.find());
    }
    return source.substring(0, at) + how.put() + source.substring(at + how.find().length());
  }

  /** What is amiss, or an empty text if the test fails with the class so broken. */
  private static String judge(String source, Method test, Edges.Broken how) throws Exception {
    try {
      Loader loader = new Loader(compile(broken(source, how)));
      Method again = loader.loadClass(test.getDeclaringClass().getName()).getDeclaredMethod(test.getName());
      again.setAccessible(true);
      again.invoke(null);
    } catch (InvocationTargetException thrown) {
      boolean due = thrown.getCause().getClass().getSimpleName().equals("NotDue");
      return due ? "" : test.getName() + " ended with " + thrown.getCause();
    } catch (IllegalStateException unfit) {
      return test.getName() + ": " + unfit.getMessage();
    }
    return test.getName() + " does not fail with " + how;
  }

  private static int count(List<Future<String>> answers) throws InterruptedException, ExecutionException {
    int amiss = 0;
    for (Future<String> answer : answers) {
      if (!answer.get().isEmpty()) {
        amiss++;
        System.out.println(answer.get());
      }
    }
    return amiss;
  }

  public static void main(String[] args) throws Exception {
    String source = Files.readString(Path.of(args[0]));
    List<Callable<String>> tasks = new ArrayList<>();
    for (Class<? extends Edges> edges : Edges.ALL) {
      for (Method test : Edges.testsOf(edges)) {
        Edges.Broken[] ways = test.getAnnotationsByType(Edges.Broken.class);
        if (ways.length == 0) {
          tasks.add(() -> test.getName() + " does not tell how the class would break it");
        }
        for (Edges.Broken how : ways) {
          tasks.add(() -> judge(source, test, how));
        }
      }
    }
    ExecutorService pool = Executors.newFixedThreadPool(Runtime.getRuntime().availableProcessors());
    int amiss = count(pool.invokeAll(tasks));
    pool.shutdown();
    System.out.println(tasks.size() + " broken classes, " + amiss + " that their tests do not tell");
    if (amiss != 0) {
      System.exit(1);
    }
  }
}
