/** Promises 20 to 23, 25 and 29 at their edges: what would be with another value. */
final class TrialEdges extends Edges {
  @Says("WITHOUT: FAULTS, if a PART (not the whole) were left out of its RECORD")
  @Broken(in = "    void leaveOut(int part) {", find = "set(kids, parent, at(kids, parent) - 1);", put = "")
  @Broken(in = "    private int parentOf(int part) {", find = "p + at(span, p) > part", put = "p == 0")
  static void promise20_aFieldLeftOut() {
    GathersAllFaults x = with("(a1b(c[1,2]d2)e2)", "{a*b{c@02*.d*}.e*<ae}");
    due("a, told", x.without(1), 1);
    due("c, told", x.without(23), 1);
    due("d, may lack", x.without(24), 0);
    due("e, may lack", x.without(5), 0);
    due("the last field", with("(a1)", "{}").without(1), 0);
    due("one of two not told", with("(a1b2)", "{}").without(2), 1);
  }

  @Says("left out of its ... LIST (elements behind it move up)")
  @Broken(in = "    void leaveOut(int part) {", find = "link();", put = "")
  static void promise20_elementsBehindItMoveUp() {
    due("the first of twins", with("[1,2,[3],[3]]", "&*").without(8), 0);
    due("ahead of the twins", with("[1,2,[3],[3]]", "&*").without(6), 1);
    due("between the twins", with("[[3],1,[3]]", "&*").without(7), 1);
    GathersAllFaults x = with("(a[1,2,3]b[2,3])", "{a*b*=ab}");
    due("as it is", x.faults(), 1);
    due("places move up", x.without(16), 0);
    due("other places", x.without(17), 1);
    due("other places", x.without(18), 1);
    due("what is in it moves, too", with("[1,[2,(a9)]]", "@04/^{a#0001}").without(76), 2);
  }

  @Says("left out: fewer elements")
  @Broken(in = "    void leaveOut(int part) {", find = "takeOut(part, at(span, part));", put = "takeOut(part, 1);")
  static void promise20_asManyElementsLess() {
    due("none are left", with("[1]", "@11*").without(6), 1);
    due("just as many", with("[1,[2,[3]],4]", "@22*").without(7), 0);
    due("one too few", with("[1,2]", "@22*").without(7), 1);
    due("a part of many parts", with("(a[1,[2,3]]b[4])", "{.a@02*.b@00*}").without(1), 1);
    due("a part behind many parts", with("(a[1,[2,3]]b[4])", "{.a@02*.b@00*}").without(2), 0);
    due("size by parts", with("(a[1,[2,3]]b[4,5])", "{a*b*<ab}").without(17), 0);
  }

  @Says("without: -1")
  @Broken(in = "public int without(int path) {", find = "NOBODY", put = "STATE")
  static void promise20_noSuchPathIsRefused() {
    GathersAllFaults x = with("[9,1]", "@04#0005");
    refused("without 8", x, -1, y -> y.without(8));
    refused("without -1", x, -1, y -> y.without(-1));
    refused("without 66", x, -1, y -> y.without(66));
  }

  @Says("without: -3 the whole")
  @Broken(in = "public int without(int path) {", find = "if (part == 0)", put = "if (part == 0 && now.size == 1)")
  @Broken(in = "public int without(int path) {", find = "STATE", put = "NOBODY")
  static void promise20_theWholeIsRefused() {
    refused("without 0", with("[9,1]", "@04#0005"), -3, y -> y.without(0));
    refused("without 0 of one part", with("5"), -3, y -> y.without(0));
  }

  @Says("what WOULD be: THE VALUE stays")
  @Broken(in = "public int without(int path) {", find = "return gatherer.gather(trial);",
      put = "now.take(trial); return gatherer.gather(trial);")
  static void promise20_theValueStays() {
    GathersAllFaults x = with("(b[1,2]a(c?))", "{a*b@22*}");
    due("without 26", x.without(26), 1);
    due("without 1", x.without(1), 1);
    due("value", shown(x), "(b[1,2]a(c?))");
    due("found", found(x), "");
    due("paths", x.path(2) + " " + x.path(3), "26 27");
  }

  @Says("MEND: the PART and the NUMBER (100 times the PATH and the NUMBER) that leaves fewest FAULTS")
  @Broken(in = "public int mend(int what) {", find = "fewest = many;", put = "")
  @Broken(in = "public int mend(int what) {", find = "best = 100 * at(now.road, p) + n;",
      put = "best = best == NONE ? 100 * at(now.road, p) + n : best;")
  static void promise21_theFewestAndNotTheFirstFewer() {
    GathersAllFaults x = with("(a9b3c4)", "{a*b*c*<ab<ac}");
    due("as it is", x.faults(), 2);
    due("the part and the number", x.mend(0), 100);
    due("that many", x.mend(1), 0);
    due("a path of one digit", with("(b9)", "{b#0308}").mend(0), 203);
    due("a path of four digits", with("[[[(e9)]]]", "@11@11@11{e#0508}").mend(0), 666505);
  }

  @Says("MEND: the NUMBER 0 .. 20")
  @Broken(in = "public int mend(int what) {", find = "n <= 20", put = "n <= 21")
  @Broken(in = "public int mend(int what) {", find = "n <= 20", put = "n < 20")
  @Broken(in = "public int mend(int what) {", find = "int n = 0", put = "int n = 1")
  static void promise21_numbersFrom0To20() {
    due("just 0", with("5", "#0000").mend(0), 0);
    due("just 0", with("5", "#0000").mend(1), 0);
    due("just 20", with("5", "#2099").mend(0), 20);
    due("beyond", with("5", "#2199").mend(0), -9);
    due("beyond", with("5", "#2199").mend(1), -9);
  }

  @Says("MEND: fewer than as it is; -9")
  @Broken(in = "public int mend(int what) {", find = "many < fewest", put = "many <= fewest")
  @Broken(in = "public int mend(int what) {", find = "what == 0 || best == NONE ?", put = "what == 0 ?")
  static void promise21_noneIsFewer() {
    due("as many", with("5", "{a*}").mend(0), -9);
    due("as many", with("5", "{a*}").mend(1), -9);
    due("no faults", with("5").mend(0), -9);
    due("no faults", with("5").mend(1), -9);
    due("no number will do", with("(a1)", "{a{}}").mend(0), -9);
  }

  @Says("MEND: of several the first by ORDER, then by NUMBERS")
  @Broken(in = "public int mend(int what) {", find = "many < fewest", put = "many <= fewest && many < gatherer.gather(now)")
  @Broken(in = "public int mend(int what) {", find = "for (int p = 0; p < now.size; p++)",
      put = "for (int p = now.size - 1; p >= 0; p--)")
  static void promise21_ofSeveralTheFirstByOrderThenByNumbers() {
    due("by order and not by paths", with("(b9a9)", "{a*b*<ab}").mend(0), 210);
    due("the other way", with("(a9b9)", "{a*b*<ab}").mend(0), 100);
    due("by numbers", with("3", "#0510").mend(0), 5);
    due("by order ahead of numbers", with("(b9a9)", "{.b*.a*<ab}").mend(0), 210);
    due("the whole first", with("(b9a9)", "{.a#0005.b#0005}").mend(0), 0);
  }

  @Says("MEND puts a NUMBER in place of any PART, the whole VALUE, too")
  @Broken(in = "public int mend(int what) {", find = "int p = 0", put = "int p = 1")
  @Broken(in = "public int mend(int what) {", find = "for (int n = 0",
      put = "if (at(now.kind, p) == NUMBER) for (int n = 0")
  static void promise21_anyPartEvenTheWhole() {
    due("the whole", with("(a1)", "#0305").mend(0), 3);
    due("the whole of one part", with("?", "#0305").mend(0), 3);
    due("a list", with("(a1b[1])", "{a*b#0007}").mend(0), 200);
    due("nothing", with("(a1b?)", "{a*b#0007}").mend(0), 200);
    due("a record", with("[1,(a(b2))]", "@22#0407").mend(0), 0);
    due("that many", with("[1,(a(b2))]", "@22#0407").mend(1), 1);
  }

  @Says("mend: -2")
  @Broken(in = "public int mend(int what) {", find = "what != 0 && what != 1", put = "what < 0 || what > 2")
  @Broken(in = "public int mend(int what) {", find = "what != 0 && what != 1", put = "what > 1")
  static void promise21_anotherWhatIsRefused() {
    GathersAllFaults x = with("9", "#0005");
    refused("mend 2", x, -2, y -> y.mend(2));
    refused("mend -1", x, -2, y -> y.mend(-1));
    refused("mend -2147483648", x, -2, y -> y.mend(Integer.MIN_VALUE));
  }

  @Says("put in place of it (would be): THE VALUE stays")
  @Broken(in = "public int mend(int what) {", find = "trial.take(now);",
      put = "trial.take(now); if (p > 0 && at(now.kind, p) == NUMBER) now.fill(p, NUMBER, 1);")
  @Broken(in = "public int range(int path, int what) {", find = "trial.take(now);",
      put = "trial.take(now); now.fill(part, NUMBER, 1);")
  static void promise21_theValueStays() {
    GathersAllFaults x = with("(a9b[9,?]c(d1))", "{a#0005b@04#0005c*}");
    x.mend(0);
    x.mend(1);
    x.range(2, 0);
    x.range(3, 1);
    x.which(2);
    x.loss(2, 0);
    due("value", shown(x), "(a9b[9,?]c(d1))");
    due("found", found(x), "1:3 26:3 27:1");
  }

  @Says("RANGE: the least, the greatest NUMBER (0 .. 99)")
  @Broken(in = "public int range(int path, int what) {", find = "int k = 0", put = "int k = 1")
  @Broken(in = "public int range(int path, int what) {", find = "k <= GREATEST", put = "k < GREATEST")
  @Broken(in = "public int range(int path, int what) {", find = "what == 0 ? k", put = "what == 1 ? k")
  static void promise22_leastAndGreatestOf0To99() {
    due("least of all", with("5").range(0, 0), 0);
    due("greatest of all", with("5").range(0, 1), 99);
    due("least of 99 alone", with("5", "#9999").range(0, 0), 99);
    due("greatest of 99 alone", with("5", "#9999").range(0, 1), 99);
    due("least of 0 alone", with("5", "#0000").range(0, 0), 0);
    due("greatest of 0 alone", with("5", "#0000").range(0, 1), 0);
    due("least of two ranges", with("5", "/#0305#0809").range(0, 0), 3);
    due("greatest of two ranges", with("5", "/#0305#0809").range(0, 1), 9);
    due("in place of a record", with("(a(b1))", "{a#0305}").range(1, 0), 3);
    due("in place of nothing", with("(a?)", "{a#0305}").range(1, 1), 5);
  }

  @Says("range: -9 (no NUMBER will do)")
  @Broken(in = "public int range(int path, int what) {", find = "return NONE;", put = "return STATE;")
  @Broken(in = "public int range(int path, int what) {", find = "gatherer.countBelow(path, 0) == 0", put = "true")
  static void promise22_noneWillDo() {
    GathersAllFaults x = with("(a1)", "{a{}}");
    due("least", x.range(1, 0), -9);
    due("greatest", x.range(1, 1), -9);
    due("least for the whole", x.range(0, 0), -9);
    due("refusals", refusals(x), "0 0 0 0 0 0");
  }

  @Says("RANGE: FAULTS elsewhere do not matter")
  @Broken(in = "public int range(int path, int what) {", find = "gatherer.countBelow(path, 0) == 0",
      put = "gatherer.size == 0")
  static void promise22_faultsElsewhereDoNotMatter() {
    GathersAllFaults x = with("(a50b9c1)", "{a#2080b#0000d*}");
    due("least", x.range(1, 0), 20);
    due("greatest", x.range(1, 1), 80);
    x = with("(a5b9)", "{a*b*<ab}");
    due("the fault is at the other one", x.range(1, 1), 99);
    due("the other one", x.range(2, 0), 6);
    due("the other one", x.range(2, 1), 99);
    due("a twin ahead", with("[0,99,?]", "&*").range(6, 0), 0);
    due("a twin behind", with("[0,99,?]", "&*").range(8, 0), 1);
    due("a twin behind", with("[0,99,?]", "&*").range(8, 1), 98);
    due("the fault of around it", with("[[1],2]", "@00@00#0304").range(66, 0), 3);
  }

  @Says("range: -1")
  @Broken(in = "public int range(int path, int what) {", find = "NOBODY", put = "STATE")
  static void promise22_noSuchPathIsRefused() {
    GathersAllFaults x = with("(a9)", "{a#0005}");
    refused("range 2 0", x, -1, y -> y.range(2, 0));
    refused("range -1 1", x, -1, y -> y.range(-1, 1));
  }

  @Says("range: -2")
  @Broken(in = "public int range(int path, int what) {", find = "what != 0 && what != 1", put = "what < 0 || what > 2")
  @Broken(in = "public int range(int path, int what) {", find = "what != 0 && what != 1", put = "what > 1")
  static void promise22_anotherWhatIsRefused() {
    GathersAllFaults x = with("(a9)", "{a#0005}");
    refused("range 1 2", x, -2, y -> y.range(1, 2));
    refused("range 1 -1", x, -2, y -> y.range(1, -1));
  }

  @Says("the first that fits in the order in which it tells them: -1; -2")
  @Broken(in = "public int range(int path, int what) {", find = "part < 0", put = "part < 0 && (what == 0 || what == 1)")
  static void promise22_noSuchPathGoesAheadOfWhat() {
    refused("range 2 2", with("(a9)", "{a#0005}"), -1, y -> y.range(2, 2));
    refused("range 2 -1", with("(a9)", "{a#0005}"), -1, y -> y.range(2, -1));
  }

  private static void loss(String value, String check, int t, String want) {
    GathersAllFaults x = with(value, check);
    due("loss of " + value + " by " + check + " 1 in " + t, x.loss(t, 0) + " by " + x.loss(t, 1), want);
  }

  @Says("LOSS: each, by itself, is NOTHING with odds 1 in t (2 .. 20): how likely there is no FAULT")
  @Broken(in = "public long loss(int t, int part) {", find = "t < 2", put = "t <= 2")
  @Broken(in = "public long loss(int t, int part) {", find = "t > 20", put = "t >= 20")
  @Broken(in = "public long loss(int t, int part) {", find = "power(t - 1, many - Integer.bitCount(lost))",
      put = "power(t - 1, Integer.bitCount(lost))")
  static void promise23_oddsFrom2To20() {
    loss("[1,2]", "@04!*", 2, "1 by 4");
    loss("[1,2]", "@04!*", 3, "4 by 9");
    loss("[1,2]", "@04!*", 20, "361 by 400");
    loss("9", "~#0005", 4, "1 by 4");
    loss("9", "~#0005", 20, "1 by 20");
    loss("(a1b1)", "/{a!*b*}{a*b!*}", 5, "24 by 25");
  }

  @Says("Fractions are told in least terms")
  @Broken(in = "private static long fraction(long above, long below, int side) {",
      find = "return a > 0 ? wanted / a : wanted;", put = "return wanted;")
  static void promise23_leastTerms() {
    loss("(a1b1)", "{a*b*=ab}", 2, "1 by 2");
    loss("(a1b1)", "{a*b*=ab}", 4, "5 by 8");
    loss("[1,2,3]", "*", 7, "1 by 1");
  }

  @Says("0 as 0 by 1; (0 by 1, if nothing)")
  @Broken(in = "private static long fraction(long above, long below, int side) {", find = "long a = above;",
      put = "if (above == 0) return side == 0 ? 0 : below; long a = above;")
  static void promise23_neverIs0By1() {
    loss("[5,6]", "{}", 2, "0 by 1");
    loss("5", "@04*", 20, "0 by 1");
    loss("?", "!*", 9, "0 by 1");
  }

  @Says("fewer, if there are not so many (NUMBERS)")
  @Broken(in = "public long loss(int t, int part) {", find = "Math.min(numbers(), 6)", put = "numbers() < 6 ? 0 : 6")
  static void promise23_noNumbersAtAll() {
    loss("[?]", "@04*", 9, "1 by 1");
    loss("?", "#0001", 9, "0 by 1");
    loss("()", "{}", 20, "1 by 1");
    loss("[1,2,3,4]", "@04!*", 2, "1 by 16");
  }

  @Says("each of the first 6 PARTS that are NUMBERS, by ORDER")
  @Broken(in = "public long loss(int t, int part) {", find = "Math.min(numbers(), 6)", put = "Math.min(numbers(), 7)")
  @Broken(in = "public long loss(int t, int part) {", find = "Math.min(numbers(), 6)", put = "Math.min(numbers(), 5)")
  static void promise23_theFirstSixNumbersByOrder() {
    loss("[(a1b2c3d4e5),(a1b1c1)]", "@04{a!*b!*c!*.d!*.e!*}", 2, "1 by 64");
    loss("[(a1b2c3d4e5),(a1b1c1)]", "@04{a!*b!*c!*.d!*.e!*}", 20, "47045881 by 64000000");
    loss("[(e1d2c3b4a5),(e6d7)]", "@04{.a*.b*.c*.d*e!*}", 2, "1 by 4");
    loss("[(e1d2c3b4a5),(e6d7)]", "@04{.a*.b*.c*d!*.e*}", 2, "1 by 2");
    loss("(a?b?c?d[1,2,3,4]e[5,6])", "{a*b*c*d@04!*e@04!*}", 2, "1 by 64");
  }

  @Says("loss: -4 below 2")
  @Broken(in = "public long loss(int t, int part) {", find = "t < 2", put = "t < 1")
  static void promise23_belowTheLeastIsRefused() {
    GathersAllFaults x = with("[1,2]");
    due("loss 1 0", with("5").loss(1, 0), 4000000000000000004L);
    longRefused("loss 1 0", x, -4, y -> y.loss(1, 0));
    longRefused("loss 0 1", x, -4, y -> y.loss(0, 1));
    longRefused("loss -2147483648 1", x, -4, y -> y.loss(Integer.MIN_VALUE, 1));
  }

  @Says("loss: -6 20")
  @Broken(in = "public long loss(int t, int part) {", find = "t > 20", put = "t > 21")
  static void promise23_aboveTheGreatestIsRefused() {
    GathersAllFaults x = with("[1,2]");
    due("loss 21 0", with("5").loss(21, 0), 4000000000000000006L);
    longRefused("loss 21 0", x, -6, y -> y.loss(21, 0));
    longRefused("loss 2147483647 1", x, -6, y -> y.loss(Integer.MAX_VALUE, 1));
  }

  @Says("loss: -2")
  @Broken(in = "public long loss(int t, int part) {", find = "part != 0 && part != 1", put = "part < 0 || part > 2")
  @Broken(in = "public long loss(int t, int part) {", find = "part != 0 && part != 1", put = "part > 1")
  static void promise23_anotherPartIsRefused() {
    GathersAllFaults x = with("[1,2]");
    due("loss 2 2", with("5").loss(2, 2), 4000000000000000002L);
    longRefused("loss 2 2", x, -2, y -> y.loss(2, 2));
    longRefused("loss 20 -1", x, -2, y -> y.loss(20, -1));
  }

  @Says("Refused as told: -4 below 2; -6 20; -2")
  @Broken(in = "public long loss(int t, int part) {", find = "t < 2", put = "t < 2 && (part == 0 || part == 1)")
  @Broken(in = "public long loss(int t, int part) {", find = "t > 20", put = "t > 20 && (part == 0 || part == 1)")
  static void promise23_theOddsGoAheadOfThePart() {
    longRefused("loss 1 2", with("[1,2]"), -4, y -> y.loss(1, 2));
    longRefused("loss 21 -1", with("[1,2]"), -6, y -> y.loss(21, -1));
  }

  @Says("WHICH NUMBER: NUMBERS (bits 0 .. 15)")
  @Broken(in = "public int which(int path) {", find = "n < 16", put = "n < 17")
  @Broken(in = "public int which(int path) {", find = "n < 16", put = "n < 15")
  @Broken(in = "public int which(int path) {", find = "int n = 0", put = "int n = 1")
  static void promise25_bits0To15() {
    due("all but 0", rows(with("5", "#0000"), 3).which(0), 65534);
    due("all but 15", rows(with("5", "#1515"), 2).which(0), 32767);
    due("15 alone", rows(with("5", "#0014"), 3).which(0), 32768);
    due("0 alone", rows(with("5", "#0199"), 2).which(0), 1);
    due("all", rows(with("5", "#1699"), 2).which(0), 65535);
    due("none", rows(with("5", "#0015"), 3).which(0), 0);
  }

  @Says("WHICH of an empty ROW: all")
  @Broken(in = "public int which(int path) {", find = "firstMistold() == toldCount",
      put = "firstMistold() == toldCount && toldCount > 0")
  static void promise25_anEmptyRowLetsAll() {
    due("without faults", with("5").which(0), 65535);
    due("with faults", with("(a1)", "{a{}}").which(1), 65535);
    due("a row emptied", rows(with("5", "#0000"), 3, 3).judge(), 1);
    GathersAllFaults x = rows(with("5", "#0000"), 2);
    due("no such", x.which(0), 0);
    x.clear();
    due("cleared", x.which(0), 65535);
  }

  @Says("as many as it tells; there may be more")
  @Broken(in = "public int which(int path) {", find = "firstMistold() == toldCount",
      put = "firstMistold() == toldCount && toldCount == gatherer.size")
  @Broken(in = "private int firstMistold() {", find = "i >= gatherer.size ||", put = "")
  static void promise25_thereMayBeMore() {
    GathersAllFaults x = rows(with("(a7b9)", "{a#0310b#0005}"), 3);
    due("too high, at a or b", x.which(1), 0b1111111111111000);
    due("two as told", rows(x, 3).which(1), 0b1111100000000000);
    due("more told than there are", rows(x, 3).which(1), 0);
    due("a row of 0, no faults", rows(with("5"), 0).which(0), 0);
  }

  @Says("WHICH NUMBER by the ROW (it stays)")
  @Broken(in = "public int which(int path) {", find = "return bits;", put = "toldCount = 0; return bits;")
  static void promise25_theRowStays() {
    GathersAllFaults x = rows(with("5", "#0000"), 3);
    due("which", x.which(0), 65534);
    due("in the row", x.count(6), 1);
    due("which again", x.which(0), 65534);
    due("judge", x.judge(), -9);
  }

  @Says("which: -1")
  @Broken(in = "public int which(int path) {", find = "NOBODY", put = "STATE")
  static void promise25_noSuchPathIsRefused() {
    GathersAllFaults x = rows(with("(a9)", "{a#0005}"), 3);
    refused("which 2", x, -1, y -> y.which(2));
    refused("which -1", x, -1, y -> y.which(-1));
    refused("which 16", x, -1, y -> y.which(16));
  }

  private static void lots(GathersAllFaults x, int n, int z, int all, int whole) {
    due("lots " + n + " " + z + " 0", x.lots(n, z, 0), all);
    due("lots " + n + " " + z + " 1", x.lots(n, z, 1), whole);
  }

  @Says("LOTS with a seed z: n VALUES (1 .. 20): FAULTS of all; how many have none")
  @Broken(in = "public int lots(int n, int z, int what) {", find = "n < 1", put = "n <= 1")
  @Broken(in = "public int lots(int n, int z, int what) {", find = "n > 20", put = "n >= 20")
  @Broken(in = "public int lots(int n, int z, int what) {", find = "many == 0", put = "many <= 1")
  static void promise29_oneToTwentyValues() {
    GathersAllFaults x = with("[1,2,3,4]", "@04~#0050");
    lots(x, 1, 0, 1, 0);
    lots(x, 2, 0, 1, 1);
    lots(x, 20, 0, 19, 3);
    lots(x, 1, 7, 1, 0);
    lots(x, 2, 7, 3, 0);
    lots(x, 20, 7, 20, 2);
    lots(x, 20, 123456789, 18, 4);
  }

  @Says("A DRAW: z becomes z times 1664525 and 1013904223 (an int)")
  @Broken(in = "private int draw(int m) {", find = "int drawn = (seed & 0x7fffffff) / 256;",
      put = "int drawn = Math.abs(seed) / 256;")
  @Broken(in = "private int draw(int m) {", find = "1013904223", put = "1013904222")
  static void promise29_aDrawWrapsAround() {
    GathersAllFaults x = with("[1,2,3,4]", "@04~#0050");
    lots(x, 20, -1, 18, 3);
    lots(x, 20, Integer.MAX_VALUE, 18, 3);
    lots(x, 20, Integer.MIN_VALUE, 19, 3);
    lots(x, 2, Integer.MIN_VALUE, 1, 1);
    lots(x, 2, -1, 2, 0);
  }

  @Says("n VALUES, each from now")
  @Broken(in = "private void tryLots() {", find = "trial.take(now);", put = "if (trial.size != now.size) trial.take(now);")
  static void promise29_eachFromNow() {
    GathersAllFaults x = with("[1,2,3,4]", "@04~#0050");
    due("as it is", x.faults(), 0);
    lots(x, 20, 7, 20, 2);
    lots(x, 20, 7, 20, 2);
    due("value", shown(x), "[1,2,3,4]");
  }

  @Says("PARTS are those of the VALUE as it is by then")
  @Broken(in = "private void tryLots() {", find = "draw(trial.size)", put = "draw(now.size)")
  static void promise29_partsAsTheyAreByThen() {
    GathersAllFaults x = with("[1,2,3,4]", "/@04*~#0050");
    lots(x, 20, 0, 2, 18);
    lots(x, 20, 7, 6, 14);
    lots(x, 20, 99, 4, 16);
    x = with("[1]", "/@04*~#0050");
    lots(x, 20, 0, 6, 14);
    lots(x, 20, 123456789, 7, 13);
  }

  @Says("by a DRAW below 4, NOTHING (0) or a NUMBER of a DRAW below 100 (else)")
  @Broken(in = "private void tryLots() {", find = "draw(4) == 0", put = "draw(4) == 1")
  @Broken(in = "private void tryLots() {", find = "trial.fill(part, NOTHING, 0);",
      put = "draw(100); trial.fill(part, NOTHING, 0);")
  static void promise29_nothingOrANumber() {
    GathersAllFaults x = with("5", "!*");
    lots(x, 1, 0, 0, 1);
    lots(x, 20, 0, 4, 16);
    lots(x, 1, 1, 1, 0);
    lots(x, 20, 1, 7, 13);
    lots(x, 1, 2, 0, 1);
    lots(x, 20, 3, 6, 14);
    lots(x, 20, -1, 4, 16);
  }

  @Says("lots: -4")
  @Broken(in = "public int lots(int n, int z, int what) {", find = "n < 1", put = "n < 0")
  static void promise29_belowTheLeastIsRefused() {
    GathersAllFaults x = with("[1,2]");
    refused("lots 0 5 0", x, -4, y -> y.lots(0, 5, 0));
    refused("lots -1 5 1", x, -4, y -> y.lots(-1, 5, 1));
    refused("lots -2147483648 5 1", x, -4, y -> y.lots(Integer.MIN_VALUE, 5, 1));
  }

  @Says("lots: -6 20")
  @Broken(in = "public int lots(int n, int z, int what) {", find = "n > 20", put = "n > 21")
  static void promise29_aboveTheGreatestIsRefused() {
    GathersAllFaults x = with("[1,2]");
    refused("lots 21 5 0", x, -6, y -> y.lots(21, 5, 0));
    refused("lots 2147483647 5 1", x, -6, y -> y.lots(Integer.MAX_VALUE, 5, 1));
  }

  @Says("lots: -2")
  @Broken(in = "public int lots(int n, int z, int what) {", find = "what != 0 && what != 1", put = "what < 0 || what > 2")
  @Broken(in = "public int lots(int n, int z, int what) {", find = "what != 0 && what != 1", put = "what > 1")
  static void promise29_anotherWhatIsRefused() {
    GathersAllFaults x = with("[1,2]");
    refused("lots 1 5 2", x, -2, y -> y.lots(1, 5, 2));
    refused("lots 20 5 -1", x, -2, y -> y.lots(20, 5, -1));
  }

  @Says("the first that fits in the order in which it tells them: -4; -6 20; -2")
  @Broken(in = "public int lots(int n, int z, int what) {", find = "n < 1", put = "n < 1 && (what == 0 || what == 1)")
  @Broken(in = "public int lots(int n, int z, int what) {", find = "n > 20", put = "n > 20 && (what == 0 || what == 1)")
  static void promise29_howManyGoesAheadOfWhat() {
    refused("lots 0 5 2", with("[1,2]"), -4, y -> y.lots(0, 5, 2));
    refused("lots 21 5 -1", with("[1,2]"), -6, y -> y.lots(21, 5, -1));
  }
}
