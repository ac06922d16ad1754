import java.math.BigInteger;
import java.util.ArrayList;
import java.util.HashSet;
import java.util.LinkedHashMap;
import java.util.List;
import java.util.Map;
import java.util.Set;

/** The document once more, written as plainly as it goes with nested objects, to compare the class with. */
final class NaiveModel {
  /** A value: the map of its fields, the list of its elements, a number, or nothing at all. */
  static final class Val {
    Integer number;
    LinkedHashMap<Character, Val> fields;
    List<Val> elements;

    static Val of(Integer number) {
      Val v = new Val();
      v.number = number;
      return v;
    }

    int kind() {
      return number != null ? 0 : fields != null ? 2 : elements != null ? 3 : 1;
    }

    Val copy() {
      Val v = of(number);
      if (fields != null) {
        v.fields = new LinkedHashMap<>();
        fields.forEach((name, in) -> v.fields.put(name, in.copy()));
      }
      if (elements != null) {
        v.elements = new ArrayList<>();
        elements.forEach(in -> v.elements.add(in.copy()));
      }
      return v;
    }

    /** The same text for values that are the same. */
    String canon() {
      switch (kind()) {
        case 0:
          return "" + number;
        case 1:
          return "?";
        case 2:
          StringBuilder b = new StringBuilder("(");
          for (char name = 'a'; name <= 'e'; name++) {
            if (fields.containsKey(name)) {
              b.append(name).append(fields.get(name).canon());
            }
          }
          return b.append(")").toString();
        default:
          List<String> texts = new ArrayList<>();
          elements.forEach(in -> texts.add(in.canon()));
          return "[" + String.join(",", texts) + "]";
      }
    }

    void list(String path, Map<String, Val> into) {
      into.put(path, this);
      if (fields != null) {
        fields.forEach((name, in) -> in.list(path + (name - 'a' + 1), into));
      }
      if (elements != null) {
        for (int i = 0; i < elements.size(); i++) {
          elements.get(i).list(path + (6 + i), into);
        }
      }
    }

    /** All parts by their paths, in their order; the path of the whole is an empty text. */
    LinkedHashMap<String, Val> parts() {
      LinkedHashMap<String, Val> all = new LinkedHashMap<>();
      list("", all);
      return all;
    }

    int size() {
      return parts().size();
    }

    /** The value with another in place of a part, or without it if the other is null. */
    Val with(String path, Val other) {
      if (path.isEmpty()) {
        return other;
      }
      Val v = copy();
      Val holder = v.parts().get(path.substring(0, path.length() - 1));
      int digit = path.charAt(path.length() - 1) - '0';
      if (digit <= 5) {
        char name = (char) ('a' + digit - 1);
        if (other == null) {
          holder.fields.remove(name);
        } else {
          holder.fields.put(name, other);
        }
      } else if (other == null) {
        holder.elements.remove(digit - 6);
      } else {
        holder.elements.set(digit - 6, other);
      }
      return v;
    }
  }

  /** A check: its sign, what is told with it, and the checks in it. */
  static final class Chk {
    char sign;
    int low;
    int high;
    List<Chk> in = new ArrayList<>();
    List<Character> names = new ArrayList<>();
    List<Boolean> free = new ArrayList<>();
    List<String> dependents = new ArrayList<>();

    int size() {
      int all = 1;
      for (Chk c : in) {
        all += c.size();
      }
      return all;
    }
  }

  record Fault(String path, int code) {
    int told() {
      return 100 * (path.isEmpty() ? 0 : Integer.parseInt(path)) + code;
    }
  }

  record Found(List<Fault> faults, int waits) {
    static final Found NONE = new Found(List.of(), 0);

    static Found one(String path, int code) {
      return new Found(List.of(new Fault(path, code)), 0);
    }

    boolean clean() {
      return faults.isEmpty();
    }

    int size() {
      return faults.size();
    }

    Found and(Found other) {
      List<Fault> both = new ArrayList<>(faults);
      both.addAll(other.faults);
      return new Found(both, waits + other.waits);
    }

    Found waiting() {
      return new Found(faults, waits + 1);
    }

    boolean touches(String path) {
      return faults.stream().anyMatch(f -> f.path.startsWith(path));
    }
  }

  static final class Stuck extends Exception {
    private static final long serialVersionUID = 1;
    final int place;

    Stuck(int place) {
      this.place = place;
    }
  }

  /** Reads letters from left to right; remembers the first place of a fault of kind 2. */
  static final class Tongue {
    final String text;
    int place = 0;
    int wrong = -1;
    int begun = 0;
    int returns = 0;

    Tongue(String text) {
      this.text = text;
    }

    char next() throws Stuck {
      if (place >= text.length()) {
        throw new Stuck(place);
      }
      return text.charAt(place);
    }

    char one(String of) throws Stuck {
      char c = next();
      if (of.indexOf(c) < 0) {
        throw new Stuck(place);
      }
      place++;
      return c;
    }

    void mark(int where, boolean bad) {
      if (bad && (wrong < 0 || where < wrong)) {
        wrong = where;
      }
    }

    Val value(int digits) throws Stuck {
      int from = place;
      begun++;
      mark(from, begun > 20 || digits > 4);
      char c = one("0123456789?([");
      Val v = new Val();
      if (c == '(') {
        v.fields = new LinkedHashMap<>();
        while (next() != ')') {
          int where = place;
          char name = one("abcde)");
          mark(where, v.fields.containsKey(name));
          v.fields.put(name, value(digits + 1));
        }
        place++;
      } else if (c == '[') {
        v.elements = new ArrayList<>();
        if (next() != ']') {
          v.elements.add(value(digits + 1));
          while (one(",]") == ',') {
            mark(place, v.elements.size() >= 4);
            v.elements.add(value(digits + 1));
          }
        } else {
          place++;
        }
      } else if (c != '?') {
        v.number = c - '0';
        if (place < text.length() && Character.isDigit(text.charAt(place))) {
          v.number = 10 * v.number + text.charAt(place++) - '0';
        }
      }
      return v;
    }

    int digits(int many) throws Stuck {
      int n = 0;
      for (int k = 0; k < many; k++) {
        n = 10 * n + one("0123456789") - '0';
      }
      return n;
    }

    Chk check(boolean inside) throws Stuck {
      int from = place;
      Chk c = new Chk();
      c.sign = one("*#!~{@&/^");
      begun++;
      mark(from, begun > 24);
      switch (c.sign) {
        case '#', '@' -> {
          int many = c.sign == '#' ? 2 : 1;
          c.low = digits(many);
          c.high = digits(many);
          mark(from, c.low > c.high);
          if (c.sign == '@') {
            c.in.add(check(true));
          }
        }
        case '!', '~', '&' -> c.in.add(check(inside));
        case '/' -> {
          c.in.add(check(inside));
          c.in.add(check(inside));
        }
        case '^' -> {
          returns++;
          mark(from, !inside || returns > 3);
        }
        case '{' -> record(c);
        default -> { }
      }
      return c;
    }

    void record(Chk c) throws Stuck {
      while ("<=}".indexOf(next()) < 0) {
        int from = place;
        boolean free = next() == '.';
        if (free) {
          place++;
        }
        char name = one("abcde");
        mark(from, c.names.contains(name));
        c.names.add(name);
        c.free.add(free);
        c.in.add(check(true));
      }
      while (next() != '}') {
        int from = place;
        char sign = one("<=");
        char one = one("abcde");
        char other = one("abcde");
        mark(from, !c.names.contains(one) || !c.names.contains(other));
        c.dependents.add("" + sign + one + other);
      }
      place++;
    }
  }

  String letters = "";
  Val now = Val.of(0);
  Chk plan = star();
  List<Integer> told = new ArrayList<>();
  int[] refused = new int[7];
  Val imageValue;
  Chk imagePlan;
  int z;

  static Chk star() {
    Chk c = new Chk();
    c.sign = '*';
    return c;
  }

  int no(int code) {
    refused[-code]++;
    return code;
  }

  long longNo(int code) {
    return 4000000000000000000L - no(code);
  }

  Found look(Chk c, Val v, String path) {
    switch (c.sign) {
      case '*':
        return Found.NONE;
      case '#':
        return v.kind() != 0 ? Found.one(path, 1) : v.number < c.low ? Found.one(path, 2)
            : v.number > c.high ? Found.one(path, 3) : Found.NONE;
      case '!':
        return v.kind() == 1 ? Found.one(path, 4) : look(c.in.get(0), v, path);
      case '~':
        return v.kind() == 1 ? Found.NONE : look(c.in.get(0), v, path);
      case '^':
        return look(plan, v, path);
      case '&':
        return twins(look(c.in.get(0), v, path), v, path);
      case '/':
        Found one = look(c.in.get(0), v, path);
        if (one.clean()) {
          return one;
        }
        Found other = look(c.in.get(1), v, path);
        return other.size() < one.size() ? other : one;
      case '@':
        return elements(c, v, path);
      default:
        return v.kind() != 2 ? Found.one(path, 5) : fields(c, v, path);
    }
  }

  Found twins(Found found, Val v, String path) {
    if (!found.clean()) {
      return found.waiting();
    }
    Set<String> seen = new HashSet<>();
    for (int i = 0; v.kind() == 3 && i < v.elements.size(); i++) {
      if (!seen.add(v.elements.get(i).canon())) {
        found = found.and(Found.one(path + (6 + i), 12));
      }
    }
    return found;
  }

  Found elements(Chk c, Val v, String path) {
    if (v.kind() != 3) {
      return Found.one(path, 10);
    }
    int many = v.elements.size();
    Found found = many < c.low || many > c.high ? Found.one(path, 11) : Found.NONE;
    for (int i = 0; i < many; i++) {
      found = found.and(look(c.in.get(0), v.elements.get(i), path + (6 + i)));
    }
    return found;
  }

  Found fields(Chk c, Val v, String path) {
    Found found = Found.NONE;
    for (int i = 0; i < c.names.size(); i++) {
      char name = c.names.get(i);
      String there = path + (name - 'a' + 1);
      if (v.fields.containsKey(name)) {
        found = found.and(look(c.in.get(i), v.fields.get(name), there));
      } else if (!c.free.get(i)) {
        found = found.and(Found.one(there, 6));
      }
    }
    for (char name : v.fields.keySet()) {
      if (!c.names.contains(name)) {
        found = found.and(Found.one(path + (name - 'a' + 1), 7));
      }
    }
    for (String dependent : c.dependents) {
      found = depend(found, dependent, v, path);
    }
    return found;
  }

  Found depend(Found found, String dependent, Val v, String path) {
    Val one = v.fields.get(dependent.charAt(1));
    Val other = v.fields.get(dependent.charAt(2));
    String onePath = path + (dependent.charAt(1) - 'a' + 1);
    String otherPath = path + (dependent.charAt(2) - 'a' + 1);
    if (one == null || other == null || found.touches(onePath) || found.touches(otherPath)) {
      return found.waiting();
    }
    if (dependent.charAt(0) == '=') {
      return one.canon().equals(other.canon()) ? found : found.and(Found.one(otherPath, 9));
    }
    boolean numbers = one.kind() == 0 && other.kind() == 0;
    boolean less = numbers ? one.number < other.number : one.size() < other.size();
    return less ? found : found.and(Found.one(otherPath, 8));
  }

  Found all(Val v) {
    return look(plan, v, "");
  }

  /** The path as the document's text of digits, or null if no part has it. */
  String there(int path) {
    String text = path == 0 ? "" : "" + path;
    return now.parts().containsKey(text) ? text : null;
  }

  static int number(String path) {
    return path.isEmpty() ? 0 : Integer.parseInt(path);
  }

  int letter(int c) {
    if (c < 0) {
      return no(-4);
    }
    if (c > 255 || letters.length() == 96) {
      return no(-6);
    }
    letters += (char) c;
    return letters.length();
  }

  int value() {
    Tongue t = new Tongue(letters);
    letters = "";
    try {
      Val v = t.value(0);
      if (t.place < t.text.length()) {
        return -1000 - t.place;
      }
      if (t.wrong >= 0) {
        return -2000 - t.wrong;
      }
      now = v;
      return now.size();
    } catch (Stuck s) {
      return -1000 - s.place;
    }
  }

  int check() {
    Tongue t = new Tongue(letters);
    letters = "";
    try {
      Chk c = t.check(false);
      if (t.place < t.text.length()) {
        return -1000 - t.place;
      }
      if (t.wrong >= 0) {
        return -2000 - t.wrong;
      }
      plan = c;
      return plan.size();
    } catch (Stuck s) {
      return -1000 - s.place;
    }
  }

  int part(int path, int what) {
    String at = there(path);
    if (at == null) {
      return no(-1);
    }
    Val v = now.parts().get(at);
    return switch (what) {
      case 0 -> v.kind();
      case 1 -> switch (v.kind()) {
        case 0 -> v.number;
        case 1 -> 0;
        case 2 -> v.fields.size();
        default -> v.elements.size();
      };
      case 2 -> v.size();
      case 3 -> new ArrayList<>(now.parts().keySet()).indexOf(at);
      default -> no(-2);
    };
  }

  int path(int i) {
    List<String> paths = new ArrayList<>(now.parts().keySet());
    return i < 0 || i >= paths.size() ? no(-1) : number(paths.get(i));
  }

  int puts(int path, int n) {
    String at = there(path);
    if (at == null) {
      return no(-1);
    }
    if (n < 0 || n > 99) {
      return no(n < 0 ? -4 : -6);
    }
    int had = now.parts().get(at).size();
    now = now.with(at, Val.of(n));
    return had;
  }

  int drops(int path) {
    String at = there(path);
    if (at == null) {
      return no(-1);
    }
    int had = now.parts().get(at).size();
    now = now.with(at, Val.of(null));
    return had;
  }

  int faults() {
    return all(now).size();
  }

  int fault(int i, int what) {
    if (what < 0 || what > 1) {
      return no(-2);
    }
    List<Fault> faults = all(now).faults;
    if (i < 0 || i >= faults.size()) {
      return no(-1);
    }
    return what == 0 ? number(faults.get(i).path) : faults.get(i).code;
  }

  int coded(int code) {
    return code < 1 || code > 12 ? no(-2) : (int) all(now).faults.stream().filter(f -> f.code == code).count();
  }

  static int below(Found found, int path) {
    String start = path == 0 ? "" : "" + path;
    return (int) found.faults.stream().filter(f -> f.path.startsWith(start)).count();
  }

  int below(int path) {
    return path < 0 ? no(-4) : path > 99999 ? no(-6) : below(all(now), path);
  }

  int waits() {
    return all(now).waits;
  }

  int first() {
    Found found = all(now);
    return found.clean() ? -9 : found.faults.get(0).told();
  }

  int limited(int k, int what) {
    if (k < 0 || k > 99) {
      return no(k < 0 ? -4 : -6);
    }
    if (what < 0 || what > 1) {
      return no(-2);
    }
    List<Fault> faults = all(now).faults;
    List<Fault> some = faults.subList(0, Math.min(k, faults.size()));
    return what == 0 ? some.size() : some.isEmpty() ? -9 : some.get(some.size() - 1).told();
  }

  int total() {
    return all(now).clean() ? now.parts().values().stream().mapToInt(v -> v.kind() == 0 ? v.number : 0).sum() : -9;
  }

  int same(int a, int b) {
    String one = there(a);
    String other = there(b);
    if (one == null || other == null) {
      return no(-1);
    }
    return now.parts().get(one).canon().equals(now.parts().get(other).canon()) ? 1 : 0;
  }

  int different() {
    Set<String> texts = new HashSet<>();
    now.parts().values().forEach(v -> texts.add(v.canon()));
    return texts.size();
  }

  int often(int what) {
    if (what < 0 || what > 1) {
      return no(-2);
    }
    LinkedHashMap<String, Integer> counts = new LinkedHashMap<>();
    LinkedHashMap<String, String> firsts = new LinkedHashMap<>();
    now.parts().forEach((path, v) -> {
      counts.merge(v.canon(), 1, Integer::sum);
      firsts.putIfAbsent(v.canon(), path);
    });
    String best = null;
    for (String text : counts.keySet()) {
      if (best == null || counts.get(text) > counts.get(best)) {
        best = text;
      }
    }
    return what == 0 ? number(firsts.get(best)) : counts.get(best);
  }

  int without(int path) {
    String at = there(path);
    return at == null ? no(-1) : at.isEmpty() ? no(-3) : all(now.with(at, null)).size();
  }

  int mend(int what) {
    if (what < 0 || what > 1) {
      return no(-2);
    }
    int fewest = faults();
    int best = -9;
    for (String at : now.parts().keySet()) {
      for (int n = 0; n <= 20; n++) {
        int many = all(now.with(at, Val.of(n))).size();
        if (many < fewest) {
          fewest = many;
          best = 100 * number(at) + n;
        }
      }
    }
    return best == -9 || what == 0 ? best : fewest;
  }

  int range(int path, int what) {
    String at = there(path);
    if (at == null) {
      return no(-1);
    }
    if (what < 0 || what > 1) {
      return no(-2);
    }
    List<Integer> good = new ArrayList<>();
    for (int n = 0; n <= 99; n++) {
      if (below(all(now.with(at, Val.of(n))), path) == 0) {
        good.add(n);
      }
    }
    return good.isEmpty() ? -9 : good.get(what == 0 ? 0 : good.size() - 1);
  }

  /** Above and below the line, by a walk over what may be lost, one number behind the other. */
  BigInteger[] loss(Val v, List<String> numbers, int i, int t) {
    if (i == numbers.size()) {
      return new BigInteger[] {all(v).clean() ? BigInteger.ONE : BigInteger.ZERO, BigInteger.ONE};
    }
    BigInteger[] kept = loss(v, numbers, i + 1, t);
    BigInteger[] lost = loss(v.with(numbers.get(i), Val.of(null)), numbers, i + 1, t);
    return new BigInteger[] {kept[0].multiply(BigInteger.valueOf(t - 1)).add(lost[0]),
        kept[1].multiply(BigInteger.valueOf(t))};
  }

  static long side(BigInteger above, BigInteger below, int part) {
    BigInteger shared = above.gcd(below);
    return (part == 0 ? above : below).divide(shared).longValueExact();
  }

  long loss(int t, int part) {
    if (t < 2 || t > 20) {
      return longNo(t < 2 ? -4 : -6);
    }
    if (part < 0 || part > 1) {
      return longNo(-2);
    }
    List<String> numbers = new ArrayList<>();
    now.parts().forEach((path, v) -> {
      if (v.kind() == 0 && numbers.size() < 6) {
        numbers.add(path);
      }
    });
    BigInteger[] odds = loss(now, numbers, 0, t);
    return side(odds[0], odds[1], part);
  }

  long mean(int part) {
    if (part < 0 || part > 1) {
      return longNo(-2);
    }
    return side(BigInteger.valueOf(faults()), BigInteger.valueOf(now.size()), part);
  }

  int which(int path) {
    String at = there(path);
    if (at == null) {
      return no(-1);
    }
    int bits = 0;
    for (int n = 0; n <= 15; n++) {
      List<Integer> codes = codes(now.with(at, Val.of(n)));
      if (codes.size() >= told.size() && codes.subList(0, told.size()).equals(told)) {
        bits += 1 << n;
      }
    }
    return bits;
  }

  List<Integer> codes(Val v) {
    List<Integer> codes = new ArrayList<>();
    all(v).faults.forEach(f -> codes.add(f.code));
    return codes;
  }

  int row(int v) {
    if (v < 0) {
      return no(-4);
    }
    if (v > 99 || told.size() == 32) {
      return no(-6);
    }
    told.add(v);
    return told.size();
  }

  int judge() {
    List<Integer> codes = codes(now);
    List<Integer> row = told;
    told = new ArrayList<>();
    for (int i = 0; i < Math.max(row.size(), codes.size()); i++) {
      if (i >= row.size() || i >= codes.size() || !row.get(i).equals(codes.get(i))) {
        return i;
      }
    }
    return -9;
  }

  int clear() {
    int had = told.size();
    told = new ArrayList<>();
    return had;
  }

  int draw(int m) {
    z = z * 1664525 + 1013904223;
    return (int) ((z & 0x7fffffffL) / 256 % m);
  }

  int lots(int n, int seed, int what) {
    if (n < 1 || n > 20) {
      return no(n < 1 ? -4 : -6);
    }
    if (what < 0 || what > 1) {
      return no(-2);
    }
    z = seed;
    int all = 0;
    int whole = 0;
    for (int k = 0; k < n; k++) {
      Val v = now;
      for (int i = 0; i < 4; i++) {
        List<String> paths = new ArrayList<>(v.parts().keySet());
        String at = paths.get(draw(paths.size()));
        v = v.with(at, Val.of(draw(4) == 0 ? null : (Integer) draw(100)));
      }
      int many = all(v).size();
      all += many;
      whole += many == 0 ? 1 : 0;
    }
    return what == 0 ? all : whole;
  }

  int image() {
    imageValue = now;
    imagePlan = plan;
    return now.size();
  }

  int on() {
    if (imageValue == null) {
      return no(-3);
    }
    now = imageValue;
    plan = imagePlan;
    return now.size();
  }

  int count(int what) {
    return switch (what) {
      case 0 -> now.size();
      case 1 -> plan.size();
      case 2 -> faults();
      case 3 -> (int) now.parts().values().stream().filter(v -> v.kind() == 0).count();
      case 4 -> now.parts().keySet().stream().mapToInt(NaiveModel::number).max().getAsInt();
      case 5 -> waits();
      case 6 -> told.size();
      case 7 -> letters.length();
      case 11, 12, 13, 14, 15, 16 -> refused[what - 10];
      default -> -9;
    };
  }
}
