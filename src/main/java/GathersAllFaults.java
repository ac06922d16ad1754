/** Gathers the faults that a check finds in a value; README.md tells how it is used. */
public final class GathersAllFaults {

  // What an object has room for.
  private static final int PARTS = 20;
  private static final int DIGITS = 4;
  private static final int ELEMENTS = 4;
  private static final int GREATEST = 99;
  private static final int CHECKS = 24;
  private static final int RETURNS = 3;
  private static final int DEPENDENTS = 32;
  private static final int LETTERS = 96;
  private static final int ROW = 32;

  // A part has 6 faults at most, and all lists that wait for the second check of a "/" count too:
  // 11 such for each of five parts inside one another, 20 + 19 + 18 + 17 + 16 parts in all.
  private static final int FAULTS = 6144;

  // 24 checks inside one another, once for each of the five levels of a value.
  private static final int DEEPEST = 128;

  // The kinds of parts.
  private static final int NUMBER = 0;
  private static final int NOTHING = 1;
  private static final int RECORD = 2;
  private static final int LIST = 3;

  // The refusals, and the answer that there is none.
  private static final int NOBODY = -1;
  private static final int OTHER = -2;
  private static final int STATE = -3;
  private static final int BELOW = -4;
  private static final int ROOM = -6;
  private static final int NONE = -9;
  private static final long LONG_REFUSAL = 4000000000000000000L;

  private final Tree now = new Tree();
  // What would be, while a call looks at it.
  private final Tree trial = new Tree();
  private final Gatherer gatherer = new Gatherer();
  private final ValueReader valueReader = new ValueReader();
  private final CheckReader checkReader = new CheckReader();
  private final int[] letters = new int[LETTERS];
  private int letterCount;
  private final int[] told = new int[ROW];
  private int toldCount;
  private final int[] refusals = new int[7];
  private final Tree imageTree = new Tree();
  private final Plan imagePlan = new Plan();
  private boolean imaged;
  private int seed;

  public GathersAllFaults() {
  }

  public int letter(int c) {
    if (c < 0) {
      return refuse(BELOW);
    }
    if (c > 255 || letterCount >= LETTERS) {
      return refuse(ROOM);
    }
    set(letters, letterCount, c);
    letterCount++;
    return letterCount;
  }

  public int value() {
    int fault = valueReader.read(letters, letterCount);
    letterCount = 0;
    if (fault != 0) {
      return fault;
    }
    now.take(valueReader.made);
    return now.size;
  }

  public int check() {
    int fault = checkReader.read(letters, letterCount);
    letterCount = 0;
    if (fault != 0) {
      return fault;
    }
    gatherer.plan.take(checkReader.made);
    return gatherer.plan.size;
  }

  public int part(int path, int what) {
    int part = now.find(path);
    if (part < 0) {
      return refuse(NOBODY);
    }
    switch (what) {
      case 0:
        return at(now.kind, part);
      case 1:
        return at(now.kind, part) == NUMBER ? at(now.num, part) : at(now.kids, part);
      case 2:
        return at(now.span, part);
      case 3:
        return part;
      default:
        return refuse(OTHER);
    }
  }

  public int path(int i) {
    if (i < 0 || i >= now.size) {
      return refuse(NOBODY);
    }
    return at(now.road, i);
  }

  public int puts(int path, int n) {
    int part = now.find(path);
    if (part < 0) {
      return refuse(NOBODY);
    }
    if (n < 0) {
      return refuse(BELOW);
    }
    if (n > GREATEST) {
      return refuse(ROOM);
    }
    int had = at(now.span, part);
    now.fill(part, NUMBER, n);
    return had;
  }

  public int drops(int path) {
    int part = now.find(path);
    if (part < 0) {
      return refuse(NOBODY);
    }
    int had = at(now.span, part);
    now.fill(part, NOTHING, 0);
    return had;
  }

  public int faults() {
    return gatherer.gather(now);
  }

  public int fault(int i, int what) {
    if (what != 0 && what != 1) {
      return refuse(OTHER);
    }
    int many = gatherer.gather(now);
    if (i < 0 || i >= many) {
      return refuse(NOBODY);
    }
    return what == 0 ? gatherer.pathAt(i) : gatherer.codeAt(i);
  }

  public int coded(int code) {
    if (code < 1 || code > 12) {
      return refuse(OTHER);
    }
    gatherer.gather(now);
    return gatherer.countCode(code);
  }

  public int below(int path) {
    if (path < 0) {
      return refuse(BELOW);
    }
    if (path > 99999) {
      return refuse(ROOM);
    }
    gatherer.gather(now);
    return gatherer.countBelow(path, 0);
  }

  public int waits() {
    gatherer.gather(now);
    return gatherer.waiting;
  }

  public int first() {
    return gatherer.gather(now) > 0 ? at(gatherer.found, 0) : NONE;
  }

  public int limited(int k, int what) {
    if (k < 0) {
      return refuse(BELOW);
    }
    if (k > 99) {
      return refuse(ROOM);
    }
    if (what != 0 && what != 1) {
      return refuse(OTHER);
    }
    int many = Math.min(k, gatherer.gather(now));
    if (what == 0) {
      return many;
    }
    return many > 0 ? at(gatherer.found, many - 1) : NONE;
  }

  public int total() {
    if (gatherer.gather(now) > 0) {
      return NONE;
    }
    int sum = 0;
    for (int p = 0; p < now.size; p++) {
      if (at(now.kind, p) == NUMBER) {
        sum += at(now.num, p);
      }
    }
    return sum;
  }

  public int same(int a, int b) {
    int one = now.find(a);
    int other = now.find(b);
    if (one < 0 || other < 0) {
      return refuse(NOBODY);
    }
    return now.alike(one, other) ? 1 : 0;
  }

  public int different() {
    int many = 0;
    for (int p = 0; p < now.size; p++) {
      if (firstAlike(p) == p) {
        many++;
      }
    }
    return many;
  }

  public int often(int what) {
    if (what != 0 && what != 1) {
      return refuse(OTHER);
    }
    int most = 0;
    int which = 0;
    for (int p = 0; p < now.size; p++) {
      int many = countAlike(p);
      if (many > most) {
        most = many;
        which = p;
      }
    }
    return what == 0 ? at(now.road, which) : most;
  }

  public int without(int path) {
    int part = now.find(path);
    if (part < 0) {
      return refuse(NOBODY);
    }
    if (part == 0) {
      return refuse(STATE);
    }
    trial.take(now);
    trial.leaveOut(part);
    return gatherer.gather(trial);
  }

  public int mend(int what) {
    if (what != 0 && what != 1) {
      return refuse(OTHER);
    }
    int fewest = gatherer.gather(now);
    int best = NONE;
    for (int p = 0; p < now.size; p++) {
      trial.take(now);
      for (int n = 0; n <= 20; n++) {
        trial.fill(p, NUMBER, n);
        int many = gatherer.gather(trial);
        if (many < fewest) {
          fewest = many;
          best = 100 * at(now.road, p) + n;
        }
      }
    }
    return what == 0 || best == NONE ? best : fewest;
  }

  public int range(int path, int what) {
    int part = now.find(path);
    if (part < 0) {
      return refuse(NOBODY);
    }
    if (what != 0 && what != 1) {
      return refuse(OTHER);
    }
    trial.take(now);
    for (int k = 0; k <= GREATEST; k++) {
      int n = what == 0 ? k : GREATEST - k;
      trial.fill(part, NUMBER, n);
      gatherer.gather(trial);
      if (gatherer.countBelow(path, 0) == 0) {
        return n;
      }
    }
    return NONE;
  }

  public long loss(int t, int part) {
    if (t < 2) {
      return refuseLong(BELOW);
    }
    if (t > 20) {
      return refuseLong(ROOM);
    }
    if (part != 0 && part != 1) {
      return refuseLong(OTHER);
    }
    int many = Math.min(numbers(), 6);
    long good = 0;
    for (int lost = 0; lost < 1 << many; lost++) {
      tryLosing(lost, many);
      if (gatherer.gather(trial) == 0) {
        good += power(t - 1, many - Integer.bitCount(lost));
      }
    }
    return fraction(good, power(t, many), part);
  }

  public long mean(int part) {
    if (part != 0 && part != 1) {
      return refuseLong(OTHER);
    }
    return fraction(gatherer.gather(now), now.size, part);
  }

  public int which(int path) {
    int part = now.find(path);
    if (part < 0) {
      return refuse(NOBODY);
    }
    trial.take(now);
    int bits = 0;
    for (int n = 0; n < 16; n++) {
      trial.fill(part, NUMBER, n);
      gatherer.gather(trial);
      if (firstMistold() == toldCount) {
        bits |= 1 << n;
      }
    }
    return bits;
  }

  public int row(int v) {
    if (v < 0) {
      return refuse(BELOW);
    }
    if (v > GREATEST || toldCount >= ROW) {
      return refuse(ROOM);
    }
    set(told, toldCount, v);
    toldCount++;
    return toldCount;
  }

  public int judge() {
    int many = gatherer.gather(now);
    int place = firstMistold();
    boolean right = place == toldCount && place == many;
    toldCount = 0;
    return right ? NONE : place;
  }

  public int clear() {
    int had = toldCount;
    toldCount = 0;
    return had;
  }

  public int lots(int n, int z, int what) {
    if (n < 1) {
      return refuse(BELOW);
    }
    if (n > 20) {
      return refuse(ROOM);
    }
    if (what != 0 && what != 1) {
      return refuse(OTHER);
    }
    seed = z;
    int all = 0;
    int whole = 0;
    for (int k = 0; k < n; k++) {
      tryLots();
      int many = gatherer.gather(trial);
      all += many;
      if (many == 0) {
        whole++;
      }
    }
    return what == 0 ? all : whole;
  }

  public int image() {
    imageTree.take(now);
    imagePlan.take(gatherer.plan);
    imaged = true;
    return now.size;
  }

  public int on() {
    if (!imaged) {
      return refuse(STATE);
    }
    now.take(imageTree);
    gatherer.plan.take(imagePlan);
    return now.size;
  }

  public int count(int what) {
    switch (what) {
      case 0:
        return now.size;
      case 1:
        return gatherer.plan.size;
      case 2:
        return gatherer.gather(now);
      case 3:
        return numbers();
      case 4:
        return greatestPath();
      case 5:
        gatherer.gather(now);
        return gatherer.waiting;
      case 6:
        return toldCount;
      case 7:
        return letterCount;
      default:
        return what >= 11 && what <= 16 ? at(refusals, what - 10) : NONE;
    }
  }

  private int refuse(int code) {
    set(refusals, -code, at(refusals, -code) + 1);
    return code;
  }

  private long refuseLong(int code) {
    return LONG_REFUSAL - refuse(code);
  }

  /** Tries what would be if, of the first numbers, those with a bit in lost were nothing. */
  private void tryLosing(int lost, int many) {
    trial.take(now);
    int k = 0;
    for (int p = 0; p < now.size && k < many; p++) {
      if (at(now.kind, p) == NUMBER) {
        if ((lost >> k & 1) == 1) {
          trial.fill(p, NOTHING, 0);
        }
        k++;
      }
    }
  }

  /** Tries what would be after four draws of a part and of what comes in its place. */
  private void tryLots() {
    trial.take(now);
    for (int k = 0; k < 4; k++) {
      int part = draw(trial.size);
      if (draw(4) == 0) {
        trial.fill(part, NOTHING, 0);
      } else {
        trial.fill(part, NUMBER, draw(100));
      }
    }
  }

  private int draw(int m) {
    seed = seed * 1664525 + 1013904223;
    int drawn = (seed & 0x7fffffff) / 256;
    return m > 0 ? drawn % m : 0;
  }

  /** The place of the first number of the row that is not the code of the fault there, or how many it tells. */
  private int firstMistold() {
    for (int i = 0; i < toldCount; i++) {
      if (i >= gatherer.size || at(told, i) != gatherer.codeAt(i)) {
        return i;
      }
    }
    return toldCount;
  }

  private int firstAlike(int part) {
    for (int p = 0; p < part; p++) {
      if (now.alike(p, part)) {
        return p;
      }
    }
    return part;
  }

  private int countAlike(int part) {
    int many = 0;
    for (int p = 0; p < now.size; p++) {
      if (now.alike(p, part)) {
        many++;
      }
    }
    return many;
  }

  private int numbers() {
    int many = 0;
    for (int p = 0; p < now.size; p++) {
      if (at(now.kind, p) == NUMBER) {
        many++;
      }
    }
    return many;
  }

  private int greatestPath() {
    int greatest = 0;
    for (int p = 0; p < now.size; p++) {
      greatest = Math.max(greatest, at(now.road, p));
    }
    return greatest;
  }

  /** What stands above (0) or below (1) the line of a fraction in least terms. */
  private static long fraction(long above, long below, int side) {
    long a = above;
    long b = below;
    for (int k = 0; k < 200 && b != 0; k++) {
      long rest = a % b;
      a = b;
      b = rest;
    }
    long wanted = side == 0 ? above : below;
    return a > 0 ? wanted / a : wanted;
  }

  private static long power(int base, int times) {
    long product = 1;
    for (int k = 0; k < times; k++) {
      product *= base;
    }
    return product;
  }

  private static boolean isDigit(int c) {
    return c >= '0' && c <= '9';
  }

  private static boolean isName(int c) {
    return c >= 'a' && c <= 'e';
  }

  /** The last digit of the PATH of a field with that name. */
  private static int digitOf(int name) {
    return name - 'a' + 1;
  }

  /** What a row holds at a place; 0 where it has no such place. */
  private static int at(int[] row, int i) {
    return row != null && i >= 0 && i < row.length ? row[i] : 0;
  }

  private static void set(int[] row, int i, int v) {
    if (row != null && i >= 0 && i < row.length) {
      row[i] = v;
    }
  }

  private static void copy(int[] from, int[] to) {
    if (from != null && to != null) {
      System.arraycopy(from, 0, to, 0, Math.min(from.length, to.length));
    }
  }

  /** Moves what stands from a place to an end forward by a gap. */
  private static void close(int[] row, int from, int end, int gap) {
    if (row != null && gap >= 0 && gap <= from && from <= end && end <= row.length) {
      System.arraycopy(row, from, row, from - gap, end - from);
    }
  }

  /** A value: its parts in their order, so that a part and all that is in it stand side by side. */
  private static final class Tree {
    final int[] kind = new int[PARTS];
    // A number itself, and how many fields or elements there are; 0 for others.
    final int[] num = new int[PARTS];
    final int[] kids = new int[PARTS];
    final int[] digit = new int[PARTS];
    final int[] span = new int[PARTS];
    final int[] road = new int[PARTS];
    int size;

    Tree() {
      size = 1;
      set(span, 0, 1);
    }

    void take(Tree other) {
      if (other == null) {
        return;
      }
      copy(other.kind, kind);
      copy(other.num, num);
      copy(other.kids, kids);
      copy(other.digit, digit);
      copy(other.span, span);
      copy(other.road, road);
      size = other.size;
    }

    /** The number of the part at a path, or -1. */
    int find(int sought) {
      for (int p = 0; p < size; p++) {
        if (at(road, p) == sought) {
          return p;
        }
      }
      return -1;
    }

    /** The number of the field or element with that digit, or -1. */
    int child(int part, int wanted) {
      int many = at(kids, part);
      int c = part + 1;
      for (int k = 0; k < many; k++) {
        if (at(digit, c) == wanted) {
          return c;
        }
        c += at(span, c);
      }
      return -1;
    }

    /** Adds a part behind all others; its path is told by link. */
    boolean add(int itsKind, int itsNum, int itsDigit) {
      if (size >= PARTS) {
        return false;
      }
      set(kind, size, itsKind);
      set(num, size, itsNum);
      set(kids, size, 0);
      set(digit, size, itsDigit);
      set(span, size, 1);
      size++;
      return true;
    }

    /** Tells elements their digits and all parts their paths. */
    void link() {
      set(road, 0, 0);
      for (int p = 0; p < size; p++) {
        int many = at(kids, p);
        int c = p + 1;
        for (int k = 0; k < many; k++) {
          if (at(kind, p) == LIST) {
            set(digit, c, 6 + k);
          }
          set(road, c, 10 * at(road, p) + at(digit, c));
          c += at(span, c);
        }
      }
    }

    void fill(int part, int itsKind, int itsNum) {
      if (part < 0 || part >= size) {
        return;
      }
      takeOut(part + 1, at(span, part) - 1);
      set(kind, part, itsKind);
      set(num, part, itsNum);
      set(kids, part, 0);
    }

    void leaveOut(int part) {
      if (part <= 0 || part >= size) {
        return;
      }
      int parent = parentOf(part);
      set(kids, parent, at(kids, parent) - 1);
      takeOut(part, at(span, part));
      link();
    }

    private int parentOf(int part) {
      int parent = 0;
      for (int p = 0; p < part; p++) {
        if (p + at(span, p) > part) {
          parent = p;
        }
      }
      return parent;
    }

    /** Takes out whole parts that stand side by side in one. */
    private void takeOut(int from, int gap) {
      if (gap <= 0) {
        return;
      }
      for (int p = 0; p < from; p++) {
        if (p + at(span, p) > from) {
          set(span, p, at(span, p) - gap);
        }
      }
      close(kind, from + gap, size, gap);
      close(num, from + gap, size, gap);
      close(kids, from + gap, size, gap);
      close(digit, from + gap, size, gap);
      close(span, from + gap, size, gap);
      close(road, from + gap, size, gap);
      size -= gap;
    }

    boolean alike(int a, int b) {
      return alikeBelow(a, b, 0);
    }

    private boolean alikeBelow(int a, int b, int depth) {
      if (depth > DIGITS || at(kind, a) != at(kind, b) || at(num, a) != at(num, b)
          || at(kids, a) != at(kids, b) || at(span, a) != at(span, b)) {
        return false;
      }
      int many = at(kids, a);
      int c = a + 1;
      for (int k = 0; k < many; k++) {
        int twin = child(b, at(digit, c));
        if (twin < 0 || !alikeBelow(c, twin, depth + 1)) {
          return false;
        }
        c += at(span, c);
      }
      return true;
    }

    /** Numbers go by themselves, all others by their sizes. */
    boolean less(int a, int b) {
      if (at(kind, a) == NUMBER && at(kind, b) == NUMBER) {
        return at(num, a) < at(num, b);
      }
      return at(span, a) < at(span, b);
    }
  }

  /** A check: its checks in the order in which they begin, each before those in it. */
  private static final class Plan {
    final int[] sign = new int[CHECKS];
    final int[] low = new int[CHECKS];
    final int[] high = new int[CHECKS];
    final int[] span = new int[CHECKS];
    // Of the check of a field: the field's digit, and 1 if it may lack.
    final int[] digit = new int[CHECKS];
    final int[] free = new int[CHECKS];
    // Of a "{": how many fields it has, their digits as bits, where its dependent ones stand.
    final int[] fields = new int[CHECKS];
    final int[] names = new int[CHECKS];
    final int[] firstDependent = new int[CHECKS];
    final int[] dependents = new int[CHECKS];
    final int[] dependentSign = new int[DEPENDENTS];
    final int[] dependentOne = new int[DEPENDENTS];
    final int[] dependentOther = new int[DEPENDENTS];
    int size;
    int dependentCount;

    Plan() {
      size = 1;
      set(sign, 0, '*');
      set(span, 0, 1);
    }

    void take(Plan other) {
      if (other == null) {
        return;
      }
      copy(other.sign, sign);
      copy(other.low, low);
      copy(other.high, high);
      copy(other.span, span);
      copy(other.digit, digit);
      copy(other.free, free);
      copy(other.fields, fields);
      copy(other.names, names);
      copy(other.firstDependent, firstDependent);
      copy(other.dependents, dependents);
      copy(other.dependentSign, dependentSign);
      copy(other.dependentOne, dependentOne);
      copy(other.dependentOther, dependentOther);
      size = other.size;
      dependentCount = other.dependentCount;
    }

    boolean knows(int check, int itsDigit) {
      return (at(names, check) >> itsDigit & 1) == 1;
    }

    /** Adds a check behind all others. */
    boolean add(int itsSign, int itsLow, int itsHigh) {
      if (size >= CHECKS) {
        return false;
      }
      set(sign, size, itsSign);
      set(low, size, itsLow);
      set(high, size, itsHigh);
      set(span, size, 1);
      set(digit, size, 0);
      set(free, size, 0);
      set(fields, size, 0);
      set(names, size, 0);
      set(firstDependent, size, 0);
      set(dependents, size, 0);
      size++;
      return true;
    }

    /** Adds a dependent one to a "{"; all of one "{" are told one behind the other. */
    void depend(int check, int itsSign, int one, int other) {
      if (at(dependents, check) == 0) {
        set(firstDependent, check, dependentCount);
      }
      set(dependents, check, at(dependents, check) + 1);
      set(dependentSign, dependentCount, itsSign);
      set(dependentOne, dependentCount, one);
      set(dependentOther, dependentCount, other);
      dependentCount++;
    }
  }

  /** Looks at a value by a check, and keeps what it found. */
  private static final class Gatherer {
    final Plan plan = new Plan();
    private Tree tree = new Tree();
    // Each fault as 100 times its path and its code.
    final int[] found = new int[FAULTS];
    int size;
    int waiting;

    /** Gathers the faults of a value by the check: how many. */
    int gather(Tree value) {
      if (value != null) {
        tree = value;
      }
      size = 0;
      waiting = 0;
      look(0, 0, 0);
      return size;
    }

    int pathAt(int i) {
      return at(found, i) / 100;
    }

    int codeAt(int i) {
      return at(found, i) % 100;
    }

    int countCode(int code) {
      int many = 0;
      for (int i = 0; i < size; i++) {
        if (codeAt(i) == code) {
          many++;
        }
      }
      return many;
    }

    int countBelow(int path, int from) {
      int many = 0;
      for (int i = from; i < size; i++) {
        if (goesOnFrom(at(found, i) / 100, path)) {
          many++;
        }
      }
      return many;
    }

    private static boolean goesOnFrom(int path, int start) {
      int rest = path;
      for (int k = 0; k <= DIGITS + 1 && rest > start; k++) {
        rest /= 10;
      }
      return rest == start;
    }

    private void add(int path, int code) {
      if (size < FAULTS) {
        set(found, size, 100 * path + code);
        size++;
      }
    }

    private void look(int check, int part, int depth) {
      int decider = deciderOf(check, part);
      if (depth > DEEPEST || decider < 0) {
        return;
      }
      int start = size;
      int before = waiting;
      switch (at(plan.sign, decider)) {
        case '#':
          lookAtNumber(decider, part);
          break;
        case '{':
          lookAtRecord(decider, part, depth);
          break;
        case '@':
          lookAtList(decider, part, depth);
          break;
        case '&':
          look(decider + 1, part, depth + 1);
          lookForTwins(part, start);
          break;
        case '/':
          look(decider + 1, part, depth + 1);
          if (size > start) {
            int middle = size;
            int between = waiting;
            look(decider + 1 + at(plan.span, decider + 1), part, depth + 1);
            keepFewer(start, middle, before, between);
          }
          break;
        default:
          break;
      }
    }

    /** The check that decides behind "!", "~" and "^"; -1 if nothing is left to look for. */
    private int deciderOf(int check, int part) {
      int c = check;
      for (int k = 0; k < 2 * CHECKS; k++) {
        int sign = at(plan.sign, c);
        if (sign == '^') {
          c = 0;
        } else if (sign != '!' && sign != '~') {
          return c;
        } else if (at(tree.kind, part) != NOTHING) {
          c++;
        } else {
          if (sign == '!') {
            add(at(tree.road, part), 4);
          }
          return -1;
        }
      }
      return -1;
    }

    private void lookAtNumber(int check, int part) {
      int path = at(tree.road, part);
      int n = at(tree.num, part);
      if (at(tree.kind, part) != NUMBER) {
        add(path, 1);
      } else if (n < at(plan.low, check)) {
        add(path, 2);
      } else if (n > at(plan.high, check)) {
        add(path, 3);
      }
    }

    private void lookAtList(int check, int part, int depth) {
      int path = at(tree.road, part);
      if (at(tree.kind, part) != LIST) {
        add(path, 10);
        return;
      }
      int many = at(tree.kids, part);
      if (many < at(plan.low, check) || many > at(plan.high, check)) {
        add(path, 11);
      }
      int element = part + 1;
      for (int k = 0; k < many; k++) {
        look(check + 1, element, depth + 1);
        element += at(tree.span, element);
      }
    }

    private void lookAtRecord(int check, int part, int depth) {
      if (at(tree.kind, part) != RECORD) {
        add(at(tree.road, part), 5);
        return;
      }
      int start = size;
      lookAtFields(check, part, depth);
      lookForStrangers(check, part);
      int from = at(plan.firstDependent, check);
      int many = at(plan.dependents, check);
      for (int k = 0; k < many; k++) {
        lookAtDependent(from + k, part, start);
      }
    }

    private void lookAtFields(int check, int part, int depth) {
      int many = at(plan.fields, check);
      int field = check + 1;
      for (int k = 0; k < many; k++) {
        int digit = at(plan.digit, field);
        int there = tree.child(part, digit);
        if (there >= 0) {
          look(field, there, depth + 1);
        } else if (at(plan.free, field) == 0) {
          add(10 * at(tree.road, part) + digit, 6);
        }
        field += at(plan.span, field);
      }
    }

    private void lookForStrangers(int check, int part) {
      int many = at(tree.kids, part);
      int field = part + 1;
      for (int k = 0; k < many; k++) {
        if (!plan.knows(check, at(tree.digit, field))) {
          add(at(tree.road, field), 7);
        }
        field += at(tree.span, field);
      }
    }

    private void lookAtDependent(int dependent, int part, int start) {
      int one = tree.child(part, at(plan.dependentOne, dependent));
      int other = tree.child(part, at(plan.dependentOther, dependent));
      if (one < 0 || other < 0 || countBelow(at(tree.road, one), start) > 0
          || countBelow(at(tree.road, other), start) > 0) {
        waiting++;
      } else if (at(plan.dependentSign, dependent) == '<') {
        if (!tree.less(one, other)) {
          add(at(tree.road, other), 8);
        }
      } else if (!tree.alike(one, other)) {
        add(at(tree.road, other), 9);
      }
    }

    /** What "&" does once its check has looked. */
    private void lookForTwins(int part, int start) {
      if (size > start) {
        waiting++;
        return;
      }
      if (at(tree.kind, part) != LIST) {
        return;
      }
      int many = at(tree.kids, part);
      for (int k = 1; k < many; k++) {
        int element = tree.child(part, 6 + k);
        boolean twin = false;
        for (int e = 0; e < k && !twin; e++) {
          twin = tree.alike(tree.child(part, 6 + e), element);
        }
        if (twin) {
          add(at(tree.road, element), 12);
        }
      }
    }

    /** Of the faults of both checks of a "/" keeps those of the one that found fewer, and what waited in it. */
    private void keepFewer(int start, int middle, int before, int between) {
      int second = size - middle;
      if (second < middle - start) {
        close(found, middle, size, middle - start);
        size = start + second;
        waiting = before + waiting - between;
      } else {
        size = middle;
        waiting = between;
      }
    }
  }

  /** Reads letters: first whether they can go on, then what they tell. */
  private abstract static class Reader {
    static final int WANTED = 0;
    static final int ENDED = 1;

    final int[] open = new int[LETTERS];
    int height;
    int state;
    // Whether the last letter was the first digit of a number.
    boolean lone;

    /** 0, or the fault of the letters. */
    int read(int[] signs, int many) {
      int place = stumble(signs, many);
      if (place >= 0) {
        return -1000 - place;
      }
      height = 0;
      place = build(signs, many);
      return place >= 0 ? -2000 - place : 0;
    }

    /** The place of the first letter that cannot go on, or -1. */
    private int stumble(int[] signs, int many) {
      height = 0;
      state = WANTED;
      lone = false;
      for (int i = 0; i < many; i++) {
        if (!goesOn(at(signs, i))) {
          return i;
        }
      }
      return state == ENDED ? -1 : many;
    }

    void push(int mark) {
      set(open, height, mark);
      height++;
    }

    void pop() {
      if (height > 0) {
        height--;
      }
    }

    /** What was opened last and is open still, or -1. */
    int top() {
      return height > 0 ? at(open, height - 1) : -1;
    }

    /** Whether a letter can stand next; goes on to the state behind it. */
    abstract boolean goesOn(int c);

    /** Makes what the letters tell: the place of the first thing that is not as it must be, or -1. */
    abstract int build(int[] signs, int many);
  }

  private static final class ValueReader extends Reader {
    private static final int FIELDS = 2;
    private static final int FIRST = 3;
    private static final int MORE = 4;

    final Tree made = new Tree();
    private int digit;

    boolean goesOn(int c) {
      boolean second = lone && isDigit(c);
      lone = false;
      if (second) {
        return true;
      }
      switch (state) {
        case WANTED:
          return begins(c);
        case FIRST:
          return c == ']' ? closes() : begins(c);
        case MORE:
          state = WANTED;
          return c == ']' ? closes() : c == ',';
        case FIELDS:
          state = WANTED;
          return c == ')' ? closes() : isName(c);
        default:
          return false;
      }
    }

    private boolean begins(int c) {
      if (c == '(' || c == '[') {
        push(c);
        state = c == '(' ? FIELDS : FIRST;
        return true;
      }
      lone = isDigit(c);
      ends();
      return lone || c == '?';
    }

    private boolean closes() {
      pop();
      ends();
      return true;
    }

    private void ends() {
      if (height == 0) {
        state = ENDED;
      } else {
        state = top() == '(' ? FIELDS : MORE;
      }
    }

    int build(int[] signs, int many) {
      made.size = 0;
      digit = 0;
      for (int i = 0; i < many; i++) {
        int place = i;
        int c = at(signs, i);
        boolean fits = true;
        if (isDigit(c)) {
          int n = c - '0';
          int next = i + 1 < many ? at(signs, i + 1) : 0;
          if (isDigit(next)) {
            n = 10 * n + next - '0';
            i++;
          }
          fits = adds(NUMBER, n);
        } else {
          fits = takes(c);
        }
        if (!fits) {
          return place;
        }
      }
      made.link();
      return -1;
    }

    /** Whether a letter that is no digit tells what is as it must be. */
    private boolean takes(int c) {
      switch (c) {
        case '?':
          return adds(NOTHING, 0);
        case '(':
          return adds(RECORD, 0);
        case '[':
          return adds(LIST, 0);
        case ')':
        case ']':
          set(made.span, top(), made.size - top());
          pop();
          return true;
        case ',':
          return true;
        default:
          digit = digitOf(c);
          return made.child(top(), digit) < 0;
      }
    }

    /** Adds a part to what is open; false if it must not be there. */
    private boolean adds(int kind, int num) {
      int holder = top();
      if (holder >= 0) {
        int before = at(made.kids, holder);
        if (at(made.kind, holder) == LIST) {
          if (before >= ELEMENTS) {
            return false;
          }
          digit = 6 + before;
        }
        set(made.kids, holder, before + 1);
      }
      if (height > DIGITS || !made.add(kind, num, digit)) {
        return false;
      }
      if (kind == RECORD || kind == LIST) {
        push(made.size - 1);
      }
      return true;
    }
  }

  private static final class CheckReader extends Reader {
    private static final int NUMBERS = 2;
    private static final int FIELDS = 3;
    private static final int NAME = 4;
    private static final int LAST = 5;
    private static final int PAIR = 6;

    final Plan made = new Plan();
    // How many checks each open one still wants.
    private final int[] wanting = new int[LETTERS];
    // How many digits or names must come, and whether a check must come behind the digits.
    private int owed;
    private boolean leads;
    private int returns;
    private int digit;
    private int free;

    boolean goesOn(int c) {
      switch (state) {
        case WANTED:
          return begins(c);
        case NUMBERS:
          owed--;
          if (owed == 0) {
            goBehindDigits();
          }
          return isDigit(c);
        case FIELDS:
          return field(c) || last(c);
        case NAME:
          state = WANTED;
          return isName(c);
        case LAST:
          return last(c);
        case PAIR:
          owed--;
          state = owed == 0 ? LAST : PAIR;
          return isName(c);
        default:
          return false;
      }
    }

    private boolean begins(int c) {
      switch (c) {
        case '*':
        case '^':
          ends();
          return true;
        case '#':
        case '@':
          state = NUMBERS;
          owed = c == '#' ? 4 : 2;
          leads = c == '@';
          return true;
        case '!':
        case '~':
        case '&':
          return true;
        case '/':
          push(c);
          return true;
        case '{':
          push(c);
          state = FIELDS;
          return true;
        default:
          return false;
      }
    }

    private void goBehindDigits() {
      if (leads) {
        state = WANTED;
      } else {
        ends();
      }
    }

    private boolean field(int c) {
      if (c == '.') {
        state = NAME;
        return true;
      }
      if (isName(c)) {
        state = WANTED;
        return true;
      }
      return false;
    }

    /** Whether a letter can stand behind the fields of a "{". */
    private boolean last(int c) {
      if (c == '<' || c == '=') {
        state = PAIR;
        owed = 2;
        return true;
      }
      if (c == '}') {
        pop();
        ends();
        return true;
      }
      return false;
    }

    /** A check is at its end. */
    private void ends() {
      if (height == 0) {
        state = ENDED;
      } else if (top() == '/') {
        pop();
        state = WANTED;
      } else {
        state = FIELDS;
      }
    }

    int build(int[] signs, int many) {
      made.size = 0;
      made.dependentCount = 0;
      returns = 0;
      digit = 0;
      free = 0;
      for (int i = 0; i < many; i++) {
        if (!takes(signs, i)) {
          return i;
        }
        i += tail(at(signs, i));
      }
      return -1;
    }

    /** How many letters behind a sign belong to it. */
    private static int tail(int c) {
      switch (c) {
        case '#':
          return 4;
        case '@':
        case '<':
        case '=':
          return 2;
        case '.':
          return 1;
        default:
          return 0;
      }
    }

    /** Whether what begins at a place is as it must be. */
    private boolean takes(int[] signs, int i) {
      int c = at(signs, i);
      switch (c) {
        case '}':
          set(made.span, top(), made.size - top());
          pop();
          settle();
          return true;
        case '.':
          return addsField(digitOf(at(signs, i + 1)), 1);
        case '<':
        case '=':
          return addsDependent(c, digitOf(at(signs, i + 1)), digitOf(at(signs, i + 2)));
        case '#':
          return adds(c, two(signs, i + 1), two(signs, i + 3));
        case '@':
          return adds(c, at(signs, i + 1) - '0', at(signs, i + 2) - '0');
        default:
          return isName(c) ? addsField(digitOf(c), 0) : adds(c, 0, 0);
      }
    }

    private static int two(int[] signs, int i) {
      return 10 * (at(signs, i) - '0') + at(signs, i + 1) - '0';
    }

    private boolean addsField(int itsDigit, int itsFree) {
      int holder = top();
      if (made.knows(holder, itsDigit)) {
        return false;
      }
      set(made.names, holder, at(made.names, holder) | 1 << itsDigit);
      set(made.fields, holder, at(made.fields, holder) + 1);
      digit = itsDigit;
      free = itsFree;
      return true;
    }

    private boolean addsDependent(int sign, int one, int other) {
      int holder = top();
      if (!made.knows(holder, one) || !made.knows(holder, other)) {
        return false;
      }
      made.depend(holder, sign, one, other);
      return true;
    }

    private boolean adds(int sign, int low, int high) {
      if (low > high || sign == '^' && !canReturn() || !made.add(sign, low, high)) {
        return false;
      }
      set(made.digit, made.size - 1, digit);
      set(made.free, made.size - 1, free);
      digit = 0;
      free = 0;
      int wants = wants(sign);
      if (wants == 0) {
        settle();
      } else {
        set(wanting, height, wants);
        push(made.size - 1);
      }
      return true;
    }

    /** How many checks are in one; more than there can be where a "}" ends it. */
    private static int wants(int sign) {
      switch (sign) {
        case '*':
        case '#':
        case '^':
          return 0;
        case '/':
          return 2;
        case '{':
          return CHECKS;
        default:
          return 1;
      }
    }

    /** A "^" goes back to the whole only from within a field or an element, and three times at most. */
    private boolean canReturn() {
      returns++;
      if (returns > RETURNS) {
        return false;
      }
      for (int k = 0; k < height; k++) {
        int sign = at(made.sign, at(open, k));
        if (sign == '{' || sign == '@') {
          return true;
        }
      }
      return false;
    }

    /** A check is whole: so are those open ones that wanted nothing but it. */
    private void settle() {
      for (int k = 0; k < CHECKS && height > 0; k++) {
        int left = at(wanting, height - 1) - 1;
        set(wanting, height - 1, left);
        if (left > 0) {
          return;
        }
        set(made.span, top(), made.size - top());
        pop();
      }
    }
  }
}
