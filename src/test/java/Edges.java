import java.lang.annotation.ElementType;
import java.lang.annotation.Repeatable;
import java.lang.annotation.Retention;
import java.lang.annotation.RetentionPolicy;
import java.lang.annotation.Target;
import java.lang.reflect.Method;
import java.util.ArrayList;
import java.util.Arrays;
import java.util.Comparator;
import java.util.List;

/** What the tests of edges share. A test is a static method named after its promise, and runs on its own. */
abstract class Edges {
  static final List<Class<? extends Edges>> ALL = List.of(LetterEdges.class, PartEdges.class, CheckEdges.class,
      FaultEdges.class, TrialEdges.class, RowEdges.class);

  /** The sentence of the document that a test is for. */
  @Retention(RetentionPolicy.RUNTIME)
  @Target(ElementType.METHOD)
  @interface Says {
    String value();
  }

  /**
   * How the class would break that sentence: the first "find" behind "in" replaced by "put". BrokenTest makes such a
   * class, and the test must fail with it.
   */
  @Retention(RetentionPolicy.RUNTIME)
  @Target(ElementType.METHOD)
  @Repeatable(Breaks.class)
  @interface Broken {
    String in();

    String find();

    String put();
  }

  @Retention(RetentionPolicy.RUNTIME)
  @Target(ElementType.METHOD)
  @interface Breaks {
    Broken[] value();
  }

  /** An answer that is not the one that is due. */
  static final class NotDue extends RuntimeException {
    private static final long serialVersionUID = 1;

    NotDue(String text) {
      super(text);
    }
  }

  interface Call {
    long of(GathersAllFaults x);
  }

  static List<Method> testsOf(Class<?> edges) {
    List<Method> tests = new ArrayList<>(Arrays.asList(edges.getDeclaredMethods()));
    tests.removeIf(m -> !m.getName().startsWith("promise"));
    tests.sort(Comparator.comparing(Method::getName));
    return tests;
  }

  static void due(String call, long got, long want) {
    if (got != want) {
      throw new NotDue(call + " answered " + got + ", due is " + want);
    }
  }

  static void due(String call, String got, String want) {
    if (!got.equals(want)) {
      throw new NotDue(call + " is " + got + ", due is " + want);
    }
  }

  static GathersAllFaults tell(GathersAllFaults x, String text) {
    for (char c : text.toCharArray()) {
      x.letter(c);
    }
    return x;
  }

  static int value(GathersAllFaults x, String text) {
    return tell(x, text).value();
  }

  static int check(GathersAllFaults x, String text) {
    return tell(x, text).check();
  }

  static GathersAllFaults with(String value, String check) {
    GathersAllFaults x = new GathersAllFaults();
    due("value " + value + " told", Math.min(value(x, value), 1), 1);
    due("check " + check + " told", Math.min(check(x, check), 1), 1);
    return x;
  }

  static GathersAllFaults with(String value) {
    return with(value, "*");
  }

  /** What a new object answers to a value told in letters. */
  static void valueIs(String text, int want) {
    due("value " + text, value(new GathersAllFaults(), text), want);
  }

  static void checkIs(String text, int want) {
    due("check " + text, check(new GathersAllFaults(), text), want);
  }

  /** A row of numbers into the object's row. */
  static GathersAllFaults rows(GathersAllFaults x, int... codes) {
    for (int code : codes) {
      x.row(code);
    }
    return x;
  }

  /** Path and code of each fault. */
  static String found(GathersAllFaults x) {
    StringBuilder b = new StringBuilder();
    int many = x.faults();
    for (int i = 0; i < many; i++) {
      b.append(i == 0 ? "" : " ").append(x.fault(i, 0)).append(':').append(x.fault(i, 1));
    }
    return b.toString();
  }

  static void finds(String check, String value, String want) {
    due("faults of " + value + " by " + check, found(with(value, check)), want);
  }

  static void waits(String check, String value, int want) {
    due("waiting of " + value + " by " + check, with(value, check).waits(), want);
  }

  /** The value as letters. */
  static String shown(GathersAllFaults x) {
    return shown(x, 0);
  }

  private static String shown(GathersAllFaults x, int path) {
    int kind = x.part(path, 0);
    if (kind < 2) {
      return kind == 0 ? "" + x.part(path, 1) : "?";
    }
    StringBuilder b = new StringBuilder();
    for (int i = 1; i < x.count(0); i++) {
      int p = x.path(i);
      if (p / 10 == path) {
        b.append(kind == 2 ? "" + (char) ('a' + p % 10 - 1) : b.length() > 0 ? "," : "").append(shown(x, p));
      }
    }
    return kind == 2 ? "(" + b + ")" : "[" + b + "]";
  }

  /** All that there is but refusals. */
  private static String all(GathersAllFaults x) {
    return shown(x) + " " + x.count(1) + " checks " + found(x) + " waiting " + x.waits() + " row " + x.count(6)
        + " letters " + x.count(7);
  }

  static String refusals(GathersAllFaults x) {
    return x.count(11) + " " + x.count(12) + " " + x.count(13) + " " + x.count(14) + " " + x.count(15) + " "
        + x.count(16);
  }

  /** A refused call answers the number, and changes nothing but how many refusals of that number there were. */
  static void refused(String name, GathersAllFaults x, int number, Call call) {
    String before = all(x);
    int[] counts = new int[7];
    for (int k = 1; k <= 6; k++) {
      counts[k] = x.count(10 + k);
    }
    due(name, call.of(x), number);
    counts[-number]++;
    String want = counts[1] + " " + counts[2] + " " + counts[3] + " " + counts[4] + " " + counts[5] + " " + counts[6];
    due("refusals behind " + name, refusals(x), want);
    due("all behind " + name, all(x), before);
  }

  static void longRefused(String name, GathersAllFaults x, int number, Call call) {
    refused(name, x, number, y -> {
      long got = call.of(y);
      due(name, got, 4000000000000000000L - number);
      return 4000000000000000000L - got;
    });
  }
}
