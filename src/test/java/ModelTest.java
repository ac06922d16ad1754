import java.util.ArrayList;
import java.util.List;

/** Runs of drawn calls on a new object each, compared with what NaiveModel answers. */
public final class ModelTest {
  private static final int RUNS = 4000;
  private static final int CALLS = 512;
  private static final String[] QUERIES = {"part", "path", "puts", "drops", "faults", "fault", "coded", "below",
      "waits", "first", "limited", "total", "same", "different", "often", "without", "mend", "range", "loss", "mean",
      "which", "row", "judge", "clear", "lots", "image", "on", "count", "value", "check", "letter"};

  private long state;
  private final GathersAllFaults x = new GathersAllFaults();
  private final NaiveModel model = new NaiveModel();
  private final List<String> calls = new ArrayList<>();
  private int returns;

  private ModelTest(long seed) {
    state = seed * 7919 + 17;
  }

  private int below(int m) {
    state = state * 6364136223846793005L + 1442695040888963407L;
    return (int) ((state >>> 33) % m);
  }

  private boolean odds(int one, int in) {
    return below(in) < one;
  }

  private String number() {
    return "" + (odds(1, 8) ? below(100) : below(12));
  }

  private String value(int depth) {
    int kind = depth > 4 || depth > 0 && odds(1, 3) ? below(3) : 2 + below(4);
    if (kind < 2) {
      return number();
    }
    if (kind == 2) {
      return "?";
    }
    StringBuilder b = new StringBuilder();
    if (kind == 3) {
      int many = below(odds(1, 10) ? 6 : 5);
      for (int i = 0; i < many; i++) {
        b.append(i == 0 ? "" : ",").append(odds(1, 2) ? number() : value(depth + 1));
      }
      return "[" + b + "]";
    }
    for (char name : names()) {
      b.append(name).append(value(depth + 1));
    }
    return "(" + b + ")";
  }

  private List<Character> names() {
    List<Character> names = new ArrayList<>();
    int many = below(5);
    for (int k = 0; k < many; k++) {
      char name = (char) ('a' + below(5));
      if (!names.contains(name) || odds(1, 40)) {
        names.add(name);
      }
    }
    return names;
  }

  private String bounds() {
    int low = odds(1, 3) ? 0 : below(8);
    int high = low + below(12) - (odds(1, 60) ? 5 : 0);
    high = Math.max(0, high);
    return "#" + low / 10 + low % 10 + high / 10 + high % 10;
  }

  private String size() {
    int low = below(3);
    int high = Math.min(9, low + below(4));
    return "@" + low + high;
  }

  private String check(int depth, boolean inside) {
    if (inside && returns < 3 && odds(1, 5)) {
      returns++;
      return "^";
    }
    if (depth > 5) {
      return odds(1, 3) ? "*" : bounds();
    }
    switch (below(depth == 0 ? 7 : 10)) {
      case 0:
        return "&" + check(depth + 1, inside);
      case 1:
        return "/" + check(depth + 1, inside) + check(depth + 1, inside);
      case 2:
        return (odds(1, 2) ? "!" : "~") + check(depth + 1, inside);
      case 3:
      case 4:
        return size() + check(depth + 1, true);
      case 5:
      case 6:
        return record(depth);
      case 7:
        return "*";
      default:
        return bounds();
    }
  }

  private String record(int depth) {
    StringBuilder b = new StringBuilder("{");
    List<Character> names = names();
    for (char name : names) {
      b.append(odds(1, 2) ? "." : "").append(name).append(check(depth + 1, true));
    }
    int many = names.isEmpty() ? 0 : below(4);
    for (int k = 0; k < many; k++) {
      b.append(odds(1, 2) ? '<' : '=').append(names.get(below(names.size()))).append(names.get(below(names.size())));
      if (odds(1, 60)) {
        b.setCharAt(b.length() - 1, (char) ('a' + below(5)));
      }
    }
    return b.append("}").toString();
  }

  /** A check that the value of the model fits, but for mistakes here and there. */
  private String fitting(NaiveModel.Val v, int depth) {
    if (odds(1, 12)) {
      return check(depth + 2, depth > 0);
    }
    String ahead = odds(1, 4) ? "&" : odds(1, 6) ? "!" : odds(1, 6) ? "~" : odds(1, 6) ? "/" + bounds() : "";
    switch (v.kind()) {
      case 0:
        return odds(1, 4) ? "*" : ahead + (odds(1, 4) ? bounds() : "#00" + (v.number / 10) + "9");
      case 1:
        return odds(1, 2) ? "~" + check(depth + 2, depth > 0) : "*";
      case 3:
        return ahead + size() + (v.elements.isEmpty() ? "*" : fitting(v.elements.get(0), depth + 1));
      default:
        StringBuilder b = new StringBuilder("{");
        v.fields.forEach((name, in) -> {
          if (!odds(1, 8)) {
            b.append(odds(1, 4) ? "." : "").append(name).append(fitting(in, depth + 1));
          }
        });
        List<Character> names = new ArrayList<>(v.fields.keySet());
        for (int k = below(4); k > 0 && !names.isEmpty(); k--) {
          b.append(odds(1, 2) ? '<' : '=').append(names.get(below(names.size())))
              .append(names.get(below(names.size())));
        }
        return ahead + b.append("}");
    }
  }

  private String spoilt(String text) {
    if (text.isEmpty() || !odds(1, 10)) {
      return text;
    }
    int place = below(text.length() + 1);
    String signs = "0123456789abcdef?()[],.*#!~{}@&/^<= ";
    String sign = "" + signs.charAt(below(signs.length()));
    String end = text.substring(Math.min(text.length(), place + below(2)));
    return text.substring(0, place) + (odds(1, 3) ? "" : sign) + end;
  }

  private void due(String call, long got, long want) {
    calls.add(call + " -> " + got);
    if (got != want) {
      calls.forEach(System.out::println);
      throw new IllegalStateException(call + " answered " + got + ", due is " + want);
    }
  }

  private void tell(String text) {
    for (char c : text.toCharArray()) {
      due("letter(" + (int) c + ")", x.letter(c), model.letter(c));
    }
  }

  private int somePath() {
    List<String> paths = new ArrayList<>(model.now.parts().keySet());
    int place = Math.max(below(paths.size()), below(paths.size()));
    int path = NaiveModel.number(paths.get(place));
    return odds(1, 8) ? path + below(12) - 6 : odds(1, 20) ? below(100001) : path;
  }

  private int someWhat(int limit) {
    return odds(1, 12) ? below(limit + 6) - 3 : below(limit);
  }

  private void ask(String name) {
    int p = somePath();
    switch (name) {
      case "part" -> { int w = someWhat(4); due("part " + p + " " + w, x.part(p, w), model.part(p, w)); }
      case "path" -> { int i = someWhat(20); due("path " + i, x.path(i), model.path(i)); }
      case "puts" -> { int n = someWhat(100); due("puts " + p + " " + n, x.puts(p, n), model.puts(p, n)); }
      case "drops" -> due("drops " + p, x.drops(p), model.drops(p));
      case "faults" -> due("faults", x.faults(), model.faults());
      case "fault" -> {
        int i = someWhat(6);
        int w = someWhat(2);
        due("fault " + i + " " + w, x.fault(i, w), model.fault(i, w));
      }
      case "coded" -> { int c = someWhat(13); due("coded " + c, x.coded(c), model.coded(c)); }
      case "below" -> due("below " + p, x.below(p), model.below(p));
      case "waits" -> due("waits", x.waits(), model.waits());
      case "first" -> due("first", x.first(), model.first());
      case "limited" -> {
        int k = odds(1, 4) ? someWhat(100) : below(6);
        int w = someWhat(2);
        due("limited " + k + " " + w, x.limited(k, w), model.limited(k, w));
      }
      case "total" -> due("total", x.total(), model.total());
      case "same" -> { int q = somePath(); due("same " + p + " " + q, x.same(p, q), model.same(p, q)); }
      case "different" -> due("different", x.different(), model.different());
      case "often" -> { int w = someWhat(2); due("often " + w, x.often(w), model.often(w)); }
      case "without" -> due("without " + p, x.without(p), model.without(p));
      case "mend" -> { int w = someWhat(2); due("mend " + w, x.mend(w), model.mend(w)); }
      case "range" -> { int w = someWhat(2); due("range " + p + " " + w, x.range(p, w), model.range(p, w)); }
      default -> askMore(name, p);
    }
  }

  private void askMore(String name, int p) {
    switch (name) {
      case "loss" -> {
        int t = odds(1, 6) ? below(25) - 2 : 2 + below(19);
        int w = someWhat(2);
        due("loss " + t + " " + w, x.loss(t, w), model.loss(t, w));
      }
      case "mean" -> { int w = someWhat(2); due("mean " + w, x.mean(w), model.mean(w)); }
      case "which" -> due("which " + p, x.which(p), model.which(p));
      case "row" -> { int v = someRow(); due("row " + v, x.row(v), model.row(v)); }
      case "judge" -> due("judge", x.judge(), model.judge());
      case "clear" -> due("clear", x.clear(), model.clear());
      case "lots" -> {
        int n = odds(1, 6) ? below(25) - 2 : 1 + below(6);
        int z = below(1 << 30) * (odds(1, 2) ? -3 : 1);
        int w = someWhat(2);
        due("lots " + n + " " + z + " " + w, x.lots(n, z, w), model.lots(n, z, w));
      }
      case "image" -> due("image", x.image(), model.image());
      case "on" -> due("on", x.on(), model.on());
      case "value" -> due("value", x.value(), model.value());
      case "check" -> due("check", x.check(), model.check());
      case "letter" -> { int c = below(300) - 20; due("letter " + c, x.letter(c), model.letter(c)); }
      default -> { int w = below(20) - 1; due("count " + w, x.count(w), model.count(w)); }
    }
  }

  /** Mostly the code of the next fault, so that rows are right as well as wrong. */
  private int someRow() {
    List<NaiveModel.Fault> faults = model.all(model.now).faults();
    if (odds(1, 10)) {
      return below(110) - 5;
    }
    return model.told.size() < faults.size() ? faults.get(model.told.size()).code() : below(13);
  }

  /** Mostly one that is as it must be and has some parts. */
  private String someValue() {
    String text = value(0);
    for (int k = 0; k < 40; k++) {
      NaiveModel.Tongue tongue = new NaiveModel.Tongue(text);
      try {
        boolean rich = tongue.value(0).size() > 3 && text.length() < 60;
        if (rich && tongue.wrong < 0 || odds(1, 60)) {
          return text;
        }
      } catch (NaiveModel.Stuck stuck) {
        throw new IllegalStateException("a value that cannot be: " + text, stuck);
      }
      text = value(0);
    }
    return text;
  }

  private String someCheck() {
    String text = "";
    for (int k = 0; k < 40; k++) {
      returns = 0;
      text = odds(1, 4) ? check(0, false) : fitting(model.now, 0);
      NaiveModel.Tongue tongue = new NaiveModel.Tongue(text);
      try {
        boolean rich = tongue.check(false).size() > 2 && text.length() < 97;
        if (rich && tongue.wrong < 0 || odds(1, 60)) {
          return text;
        }
      } catch (NaiveModel.Stuck stuck) {
        throw new IllegalStateException("a check that cannot be: " + text, stuck);
      }
    }
    return text;
  }

  private void run() {
    while (calls.size() < CALLS - 200) {
      if (odds(3, 4)) {
        tell(spoilt(someValue()));
        due("value()", x.value(), model.value());
      }
      tell(spoilt(someCheck()));
      due("check()", x.check(), model.check());
      for (int k = 10 + below(100); k > 0 && calls.size() < CALLS; k--) {
        String name = QUERIES[below(QUERIES.length)];
        boolean changes = List.of("puts", "drops", "value", "check", "letter").contains(name);
        if (!changes || odds(1, 6)) {
          ask(name);
        }
      }
    }
  }

  public static void main(String[] args) {
    long from = args.length > 1 ? Long.parseLong(args[1]) : 0;
    long runs = args.length > 2 ? Long.parseLong(args[2]) : RUNS;
    int[] seen = new int[13];
    long faults = 0;
    for (long seed = from; seed < from + runs; seed++) {
      ModelTest test = new ModelTest(seed);
      test.run();
      for (int code = 1; code <= 12; code++) {
        seen[code] += test.x.coded(code);
      }
      faults += test.x.faults();
    }
    System.out.println("the model agrees; faults at the ends of the runs: " + faults);
    for (int code = 1; code <= 12; code++) {
      if (seen[code] == 0) {
        throw new IllegalStateException("no fault of code " + code + " was ever met");
      }
    }
  }
}
