import java.lang.reflect.InvocationTargetException;
import java.lang.reflect.Method;

/** Runs every test of edges by itself, and tells those that fail with the sentence that they are for. */
public final class EdgesTest {
  public static void main(String[] args) throws IllegalAccessException {
    int run = 0;
    int failed = 0;
    for (Class<? extends Edges> edges : Edges.ALL) {
      for (Method test : Edges.testsOf(edges)) {
        run++;
        try {
          test.invoke(null);
        } catch (InvocationTargetException thrown) {
          failed++;
          System.out.println(test.getName() + ": " + thrown.getCause());
          System.out.println("  the document: " + test.getAnnotation(Edges.Says.class).value());
        }
      }
    }
    System.out.println(run + " tests of edges, " + failed + " failed");
    if (failed != 0) {
      System.exit(1);
    }
  }
}
