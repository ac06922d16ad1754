/** Promises 10 to 12, 14 to 16 and 24 at their edges: what is told of the faults that there are. */
final class FaultEdges extends Edges {
  /** Finds 0:11, 6:3, 7:3, 8:1, 9:1. */
  private static GathersAllFaults five() {
    return with("[9,9,[],?]", "@03#0005");
  }

  @Says("How many FAULTS (all independent ones)")
  @Broken(in = "public int faults() {", find = "gatherer.gather(now)", put = "gatherer.gather(now) > 0 ? 1 : 0")
  static void promise09_howMany() {
    due("five", five().faults(), 5);
    due("none", with("5").faults(), 0);
    due("one for each lacking field", with("()", "{a*b*c*d*e*}").faults(), 5);
    GathersAllFaults x = five();
    x.puts(6, 5);
    due("one less", x.faults(), 4);
    x.puts(0, 5);
    due("no list", x.faults(), 1);
    due("as many as parts", with("[[6,6,6,6],[6,6,6,6],[6,6,6,6],[6,6,6]]", "@00@00#0005").faults(), 20);
  }

  @Says("The i-th (0 ..): PATH (what 0), CODE (1)")
  @Broken(in = "public int fault(int i, int what) {", find = "what == 0 ?", put = "what == 1 ?")
  @Broken(in = "public int fault(int i, int what) {", find = "gatherer.pathAt(i)", put = "gatherer.pathAt(i + 1)")
  static void promise10_pathAndCodeOfTheIth() {
    GathersAllFaults x = five();
    int[] paths = {0, 6, 7, 8, 9};
    int[] codes = {11, 3, 3, 1, 1};
    for (int i = 0; i < 5; i++) {
      due("path of " + i, x.fault(i, 0), paths[i]);
      due("code of " + i, x.fault(i, 1), codes[i]);
    }
    due("a path of five digits", with("(a(a(a(a()))))", "{a{a{a{a{a*}}}}}").fault(0, 0), 11111);
    due("its code", with("(a(a(a(a()))))", "{a{a{a{a{a*}}}}}").fault(0, 1), 6);
  }

  @Says("fault: -2")
  @Broken(in = "public int fault(int i, int what) {", find = "what != 0 && what != 1", put = "what < 0 || what > 2")
  @Broken(in = "public int fault(int i, int what) {", find = "what != 0 && what != 1", put = "what > 1")
  static void promise10_anotherWhatIsRefused() {
    GathersAllFaults x = five();
    refused("fault 0 2", x, -2, y -> y.fault(0, 2));
    refused("fault 0 -1", x, -2, y -> y.fault(0, -1));
    refused("fault 0 2147483647", x, -2, y -> y.fault(0, Integer.MAX_VALUE));
  }

  @Says("fault: -1 there is none")
  @Broken(in = "public int fault(int i, int what) {", find = "i >= many", put = "i > many")
  @Broken(in = "public int fault(int i, int what) {", find = "i < 0", put = "i < -1")
  static void promise10_noneIsRefused() {
    GathersAllFaults x = five();
    refused("fault 5 0", x, -1, y -> y.fault(5, 0));
    refused("fault -1 1", x, -1, y -> y.fault(-1, 1));
    refused("fault 2147483647 0", x, -1, y -> y.fault(Integer.MAX_VALUE, 0));
    refused("fault -2147483648 0", x, -1, y -> y.fault(Integer.MIN_VALUE, 0));
    refused("fault 0 0 of none", with("5"), -1, y -> y.fault(0, 0));
  }

  @Says("the first that fits in the order in which it tells them: -2; -1")
  @Broken(in = "public int fault(int i, int what) {", find = "what != 0 && what != 1",
      put = "what != 0 && what != 1 && i >= 0 && i < gatherer.gather(now)")
  static void promise10_whatGoesAheadOfNone() {
    refused("fault 5 2", five(), -2, y -> y.fault(5, 2));
    refused("fault -1 -1", five(), -2, y -> y.fault(-1, -1));
  }

  @Says("How many of a CODE (1 .. 12)")
  @Broken(in = "public int coded(int code) {", find = "code < 1", put = "code <= 1")
  @Broken(in = "public int coded(int code) {", find = "code > 12", put = "code >= 12")
  @Broken(in = "public int coded(int code) {", find = "gatherer.gather(now);", put = "")
  static void promise11_howManyOfEachCode() {
    String[] checks = {"@04#0505", "@04#0505", "@04#0505", "@04!*", "@04{}", "@04{a*}", "@04{}", "@04{.a*.b*<ab}",
        "@04{.a*.b*=ab}", "@04@04*", "@04@04*", "&*"};
    String[] values = {"[?,?,5]", "[4,4,5]", "[6,5,6]", "[?,1,?]", "[1,2,()]", "[(),(a1),()]", "[(a1),(),(b1)]",
        "[(a1b1),(a1b2),(a2b1)]", "[(a1b1),(a1b2),(a2b1)]", "[1,[],?]", "[[],[],[]]", "[1,1,1]"};
    int[] many = {2, 2, 2, 2, 2, 2, 2, 2, 2, 2, 0, 2};
    for (int code = 1; code <= 12; code++) {
      due("code " + code, with(values[code - 1], checks[code - 1]).coded(code), many[code - 1]);
    }
    due("code 11", with("[[],[1],[1,2]]", "@04@11*").coded(11), 2);
    GathersAllFaults x = five();
    int sum = 0;
    for (int code = 1; code <= 12; code++) {
      sum += x.coded(code);
    }
    due("all codes together", sum, 5);
  }

  @Says("coded: -2 (1 .. 12)")
  @Broken(in = "public int coded(int code) {", find = "code < 1", put = "code < 0")
  @Broken(in = "public int coded(int code) {", find = "code > 12", put = "code > 13")
  static void promise11_anotherCodeIsRefused() {
    GathersAllFaults x = five();
    refused("coded 0", x, -2, y -> y.coded(0));
    refused("coded 13", x, -2, y -> y.coded(13));
    refused("coded -1", x, -2, y -> y.coded(-1));
    refused("coded 2147483647", x, -2, y -> y.coded(Integer.MAX_VALUE));
    refused("coded -2147483648", x, -2, y -> y.coded(Integer.MIN_VALUE));
  }

  @Says("How many BELOW a PATH: that PATH itself, and those that go on from it")
  @Broken(in = "private static boolean goesOnFrom(int path, int start) {", find = "k <= DIGITS + 1", put = "k < 3")
  @Broken(in = "private static boolean goesOnFrom(int path, int start) {", find = "return rest == start",
      put = "return rest == start && path != start")
  static void promise12_thatPathAndThoseThatGoOnFromIt() {
    GathersAllFaults x = with("(a(a(a(a()b?))))", "{a{a{a{a{a*}b#0001}}}b*}");
    due("found", found(x), "11111:6 1112:1 2:6");
    int[] paths = {0, 1, 11, 111, 1111, 11111, 1112, 2};
    int[] many = {3, 2, 2, 2, 1, 1, 1, 1};
    for (int k = 0; k < paths.length; k++) {
      due("below " + paths[k], x.below(paths[k]), many[k]);
    }
    due("all below the whole", five().below(0), 5);
    due("none", with("5").below(0), 0);
  }

  @Says("BELOW a PATH (of a PART or not)")
  @Broken(in = "public int below(int path) {", find = "path < 0", put = "now.find(path) < 0")
  static void promise12_aPathOfNoPart() {
    GathersAllFaults x = with("(b1)", "{a*b{}c*}");
    due("found", found(x), "1:6 2:5 3:6");
    due("a field that lacks", x.below(1), 1);
    due("another one", x.below(3), 1);
    due("none there", x.below(4), 0);
    due("a longer one", x.below(11), 0);
    due("a 0 in it", x.below(10), 0);
    due("a 0 in it", x.below(20), 0);
    due("of five digits", x.below(12345), 0);
  }

  @Says("below: -4 below 0")
  @Broken(in = "public int below(int path) {", find = "path < 0", put = "path < -1")
  @Broken(in = "public int below(int path) {", find = "path < 0", put = "path <= 0")
  static void promise12_belowTheLeastIsRefused() {
    GathersAllFaults x = five();
    due("0", x.below(0), 5);
    refused("below -1", x, -4, y -> y.below(-1));
    refused("below -2147483648", x, -4, y -> y.below(Integer.MIN_VALUE));
  }

  @Says("below: -6 99999")
  @Broken(in = "public int below(int path) {", find = "path > 99999", put = "path > 100000")
  @Broken(in = "public int below(int path) {", find = "path > 99999", put = "path >= 99999")
  static void promise12_aboveTheGreatestIsRefused() {
    GathersAllFaults x = five();
    due("99999", x.below(99999), 0);
    refused("below 100000", x, -6, y -> y.below(100000));
    refused("below 2147483647", x, -6, y -> y.below(Integer.MAX_VALUE));
  }

  @Says("FIRST: 100 times the PATH and the CODE of the first")
  @Broken(in = "public int first() {", find = "at(gatherer.found, 0)", put = "at(gatherer.found, gatherer.size - 1)")
  @Broken(in = "    private void add(int path, int code) {", find = "100 * path", put = "100 * (path % 10000)")
  static void promise14_theFirst() {
    due("at the whole", five().first(), 11);
    due("of several", with("[9,?]", "@04#0005").first(), 603);
    due("at five digits", with("(a(a(a(a()))))", "{a{a{a{a{e*}}}}}").first(), 1111506);
    due("by fields as told", with("(a9b9)", "{b#0005a#0005}").first(), 203);
  }

  @Says("first: -9 (there is none)")
  @Broken(in = "public int first() {", find = ": NONE", put = ": 0")
  @Broken(in = "public int first() {", find = "> 0", put = ">= 0")
  static void promise14_thereIsNone() {
    GathersAllFaults x = with("5", "#0005");
    due("first", x.first(), -9);
    x.puts(0, 6);
    due("first then", x.first(), 3);
    x.puts(0, 5);
    due("none again", x.first(), -9);
    due("refusals", refusals(x), "0 0 0 0 0 0");
  }

  @Says("LIMITED to k: how many are told at most k")
  @Broken(in = "public int limited(int k, int what) {", find = "Math.min(k, gatherer.gather(now))",
      put = "Math.max(k, gatherer.gather(now))")
  @Broken(in = "public int limited(int k, int what) {", find = "Math.min(k, gatherer.gather(now))",
      put = "Math.min(k, gatherer.gather(now) - 1)")
  static void promise15_howManyAtMostK() {
    GathersAllFaults x = five();
    int[] limits = {0, 1, 4, 5, 6, 99};
    int[] many = {0, 1, 4, 5, 5, 5};
    for (int i = 0; i < limits.length; i++) {
      due("limited to " + limits[i], x.limited(limits[i], 0), many[i]);
    }
    due("limited of none", with("5").limited(99, 0), 0);
  }

  @Says("the last one of these, as FIRST (1; -9 none)")
  @Broken(in = "public int limited(int k, int what) {", find = "many - 1", put = "0")
  @Broken(in = "public int limited(int k, int what) {", find = "many > 0 ?", put = "many >= 0 ?")
  static void promise15_theLastOfThese() {
    GathersAllFaults x = five();
    int[] limits = {0, 1, 2, 4, 5, 6, 99};
    int[] last = {-9, 11, 603, 801, 901, 901, 901};
    for (int i = 0; i < limits.length; i++) {
      due("limited to " + limits[i], x.limited(limits[i], 1), last[i]);
    }
    due("limited of none", with("5").limited(4, 1), -9);
    due("refusals", refusals(x), "0 0 0 0 0 0");
  }

  @Says("limited: -4")
  @Broken(in = "public int limited(int k, int what) {", find = "k < 0", put = "k < -1")
  @Broken(in = "public int limited(int k, int what) {", find = "BELOW", put = "ROOM")
  static void promise15_belowTheLeastIsRefused() {
    GathersAllFaults x = five();
    refused("limited -1 0", x, -4, y -> y.limited(-1, 0));
    refused("limited -2147483648 1", x, -4, y -> y.limited(Integer.MIN_VALUE, 1));
  }

  @Says("limited: -6 99")
  @Broken(in = "public int limited(int k, int what) {", find = "k > 99", put = "k > 100")
  @Broken(in = "public int limited(int k, int what) {", find = "ROOM", put = "BELOW")
  static void promise15_aboveTheGreatestIsRefused() {
    GathersAllFaults x = five();
    refused("limited 100 0", x, -6, y -> y.limited(100, 0));
    refused("limited 2147483647 1", x, -6, y -> y.limited(Integer.MAX_VALUE, 1));
  }

  @Says("limited: -2")
  @Broken(in = "public int limited(int k, int what) {", find = "what != 0 && what != 1", put = "what < 0 || what > 2")
  @Broken(in = "public int limited(int k, int what) {", find = "what != 0 && what != 1", put = "what > 1")
  static void promise15_anotherWhatIsRefused() {
    GathersAllFaults x = five();
    refused("limited 0 2", x, -2, y -> y.limited(0, 2));
    refused("limited 99 -1", x, -2, y -> y.limited(99, -1));
  }

  @Says("the first that fits in the order in which it tells them: -4; -6 99; -2")
  @Broken(in = "public int limited(int k, int what) {", find = "k < 0", put = "k < 0 && (what == 0 || what == 1)")
  @Broken(in = "public int limited(int k, int what) {", find = "k > 99", put = "k > 99 && (what == 0 || what == 1)")
  static void promise15_theLimitGoesAheadOfWhat() {
    refused("limited -1 2", five(), -4, y -> y.limited(-1, 2));
    refused("limited 100 2", five(), -6, y -> y.limited(100, 2));
  }

  @Says("TOTAL: all NUMBERS together, if there are no FAULTS")
  @Broken(in = "public int total() {", find = "sum += at(now.num, p)", put = "sum = at(now.num, p)")
  @Broken(in = "public int total() {", find = "p < now.size", put = "p < now.size - 1")
  static void promise16_allNumbersTogether() {
    due("one", with("5").total(), 5);
    due("deep", with("(a5b[3,?,3]c(d7))").total(), 18);
    due("no numbers", with("[?,(),[]]").total(), 0);
    due("a number 0", with("0").total(), 0);
    due("many", with("[[99,99,99,99],[99,99,99,99],[99,99,99,99],[99,99,99]]").total(), 1485);
    GathersAllFaults x = with("[1,2]");
    x.drops(6);
    due("without what was dropped", x.total(), 2);
  }

  @Says("total: -9 (there are FAULTS)")
  @Broken(in = "public int total() {", find = "> 0", put = "> 1")
  @Broken(in = "public int total() {", find = "return NONE", put = "return STATE")
  static void promise16_withAFaultThereIsNone() {
    due("one fault", with("(a5b3)", "{a*}").total(), -9);
    due("five faults", five().total(), -9);
    GathersAllFaults x = with("(a5)", "{.a*.b*<ab}");
    due("waiting is no fault", x.waits(), 1);
    due("total", x.total(), 5);
    due("refusals", refusals(x), "0 0 0 0 0 0");
  }

  @Says("MEAN: FAULTS by PARTS: a fraction, told in least terms")
  @Broken(in = "private static long fraction(long above, long below, int side) {",
      find = "return a > 0 ? wanted / a : wanted;", put = "return wanted;")
  @Broken(in = "public long mean(int part) {", find = "gatherer.gather(now), now.size", put = "now.size, gatherer.size")
  static void promise24_faultsByParts() {
    due("4 by 5", with("[9,9,[],?]", "@04#0005").mean(0), 4);
    due("4 by 5", with("[9,9,[],?]", "@04#0005").mean(1), 5);
    due("2 by 4", with("[9,9,1]", "@04#0005").mean(0), 1);
    due("2 by 4", with("[9,9,1]", "@04#0005").mean(1), 2);
    due("3 by 1", with("()", "{a*b*c*}").mean(0), 3);
    due("3 by 1", with("()", "{a*b*c*}").mean(1), 1);
    due("5 by 5", five().mean(0), 1);
    due("5 by 5", five().mean(1), 1);
  }

  @Says("Fractions ... (0 by 1, if nothing)")
  @Broken(in = "private static long fraction(long above, long below, int side) {", find = "long a = above;",
      put = "if (above == 0) return side == 0 ? 0 : below; long a = above;")
  static void promise24_noFaultsAre0By1() {
    due("none of four", with("[1,1,?]").mean(0), 0);
    due("none of four", with("[1,1,?]").mean(1), 1);
    due("none of one", with("5").mean(0), 0);
    due("none of one", with("5").mean(1), 1);
  }

  @Says("mean: -2; of longs 4000000000000000000 less them")
  @Broken(in = "public long mean(int part) {", find = "part != 0 && part != 1", put = "part < 0 || part > 2")
  @Broken(in = "public long mean(int part) {", find = "part != 0 && part != 1", put = "part > 1")
  @Broken(in = "private long refuseLong(int code) {", find = "LONG_REFUSAL - refuse(code)",
      put = "LONG_REFUSAL + refuse(code)")
  static void promise24_anotherPartIsRefused() {
    GathersAllFaults x = five();
    due("mean 2", with("5").mean(2), 4000000000000000002L);
    longRefused("mean 2", x, -2, y -> y.mean(2));
    longRefused("mean -1", x, -2, y -> y.mean(-1));
    longRefused("mean 2147483647", x, -2, y -> y.mean(Integer.MAX_VALUE));
  }
}
