/** Promises 26 to 28 and 30 to 32 at their edges: the row, the image, and what is counted. */
final class RowEdges extends Edges {
  private static final String WHOLE = "(a5b[3,?,3]c(d7))";

  /** Finds codes 11, 3, 3, 1. */
  private static GathersAllFaults four() {
    return with("[9,9,?]", "@02#0005");
  }

  private static void judged(int want, int... row) {
    GathersAllFaults x = rows(four(), row);
    due("judge of " + java.util.Arrays.toString(row), x.judge(), want);
    due("in the row behind that", x.count(6), 0);
  }

  @Says("A number more of the ROW (0 .. 99): how many")
  @Broken(in = "public int row(int v) {", find = "v < 0", put = "v <= 0")
  @Broken(in = "public int row(int v) {", find = "v > GREATEST", put = "v >= GREATEST")
  static void promise26_numbersFrom0To99() {
    GathersAllFaults x = new GathersAllFaults();
    due("row 0", x.row(0), 1);
    due("row 99", x.row(99), 2);
    due("in the row", x.count(6), 2);
    due("refusals", refusals(x), "0 0 0 0 0 0");
  }

  @Says("row: -4")
  @Broken(in = "public int row(int v) {", find = "v < 0", put = "v < -1")
  @Broken(in = "public int row(int v) {", find = "BELOW", put = "ROOM")
  static void promise26_belowTheLeastIsRefused() {
    GathersAllFaults x = rows(four(), 11);
    refused("row -1", x, -4, y -> y.row(-1));
    refused("row -2147483648", x, -4, y -> y.row(Integer.MIN_VALUE));
    due("judge", rows(x, 3, 3, 1).judge(), -9);
  }

  @Says("row: -6 (99; ...)")
  @Broken(in = "public int row(int v) {", find = "v > GREATEST", put = "v > GREATEST + 1")
  @Broken(in = "public int row(int v) {", find = "ROOM", put = "BELOW")
  static void promise26_aboveTheGreatestIsRefused() {
    GathersAllFaults x = rows(four(), 11);
    refused("row 100", x, -6, y -> y.row(100));
    refused("row 2147483647", x, -6, y -> y.row(Integer.MAX_VALUE));
    due("judge", rows(x, 3, 3, 1).judge(), -9);
  }

  @Says("A ROW of numbers (32 at most); -6 (..., 32, too)")
  @Broken(in = "public final class GathersAllFaults {", find = "ROW = 32", put = "ROW = 33")
  @Broken(in = "public final class GathersAllFaults {", find = "ROW = 32", put = "ROW = 31")
  static void promise26_32AreAllThatThereIsRoomFor() {
    GathersAllFaults x = new GathersAllFaults();
    for (int k = 1; k <= 32; k++) {
      due("row " + k, x.row(k), k);
    }
    refused("the 33rd", x, -6, y -> y.row(1));
    due("in the row", x.count(6), 32);
    due("clear", x.clear(), 32);
    due("then there is room", x.row(1), 1);
  }

  @Says("the first that fits in the order in which it tells them: -4; -6")
  @Broken(in = "public int row(int v) {", find = "v < 0", put = "v < 0 && toldCount < ROW")
  static void promise26_belowTheLeastGoesAheadOfNoRoom() {
    GathersAllFaults x = rows(new GathersAllFaults(), new int[32]);
    refused("row -1, the 33rd", x, -4, y -> y.row(-1));
    refused("row 100, the 33rd", x, -6, y -> y.row(100));
  }

  @Says("JUDGED as CODES of all FAULTS: the first that is not so")
  @Broken(in = "private int firstMistold() {", find = "return i;", put = "return i + 1;")
  @Broken(in = "private int firstMistold() {", find = "at(told, i) != gatherer.codeAt(i)",
      put = "at(told, i) < gatherer.codeAt(i)")
  static void promise27_theFirstThatIsNotSo() {
    judged(0, 1);
    judged(0, 12, 3, 3, 1);
    judged(1, 11, 2, 2, 1);
    judged(2, 11, 3, 4, 2);
    judged(3, 11, 3, 3, 99);
    judged(0, 0, 0);
  }

  @Says("(one too many, too)")
  @Broken(in = "private int firstMistold() {", find = "i >= gatherer.size ||", put = "i < gatherer.size &&")
  static void promise27_oneTooMany() {
    judged(4, 11, 3, 3, 1, 1);
    judged(4, 11, 3, 3, 1, 0, 1);
    due("of no faults", rows(with("5"), 0).judge(), 0);
    due("of no faults", rows(with("5"), 3).judge(), 0);
    GathersAllFaults x = rows(with("(a(a(a(a()))))", "{a{a{a{a{a*}}}}}"), new int[32]);
    due("a full row", x.judge(), 0);
  }

  @Says("if it tells too few, how many it tells")
  @Broken(in = "public int judge() {", find = "&& place == many", put = "")
  static void promise27_tooFew() {
    judged(3, 11, 3, 3);
    judged(1, 11);
    judged(0);
  }

  @Says("judge: -9 (all is so)")
  @Broken(in = "public int judge() {", find = "right ? NONE : place", put = "place")
  static void promise27_allIsSo() {
    judged(-9, 11, 3, 3, 1);
    due("none of none", with("5").judge(), -9);
    due("refusals", refusals(with("5")), "0 0 0 0 0 0");
  }

  @Says("whichever it answers, the ROW has none then")
  @Broken(in = "public int judge() {", find = "toldCount = 0;", put = "toldCount = right ? 0 : toldCount;")
  @Broken(in = "public int judge() {", find = "toldCount = 0;", put = "toldCount = right ? toldCount : 0;")
  static void promise27_theRowHasNoneThen() {
    GathersAllFaults x = rows(four(), 11, 3, 3, 1);
    due("right", x.judge(), -9);
    due("in the row", x.count(6), 0);
    due("right the next time, too", rows(x, 11, 3, 3, 1).judge(), -9);
    due("wrong", rows(x, 5).judge(), 0);
    due("in the row", x.count(6), 0);
    due("right then", rows(x, 11, 3, 3, 1).judge(), -9);
  }

  @Says("The ROW has none then: how many it had")
  @Broken(in = "public int clear() {", find = "return had;", put = "return toldCount;")
  @Broken(in = "public int clear() {", find = "toldCount = 0;", put = "")
  static void promise28_howManyItHad() {
    GathersAllFaults x = new GathersAllFaults();
    due("an empty row", x.clear(), 0);
    due("two", rows(x, 7, 8).clear(), 2);
    due("in the row", x.count(6), 0);
    due("an empty row", x.clear(), 0);
    due("the next one", x.row(1), 1);
  }

  @Says("THE IMAGE is taken: SIZE")
  @Broken(in = "public int image() {", find = "return now.size;", put = "return now.size - 1;")
  @Broken(in = "public int image() {", find = "imageTree.take(now);", put = "if (!imaged) imageTree.take(now);")
  static void promise30_theImageIsTaken() {
    GathersAllFaults x = with(WHOLE);
    due("image", x.image(), 8);
    x.drops(3);
    due("a later one", x.image(), 7);
    x.puts(0, 1);
    due("image of one", x.image(), 1);
    x.drops(0);
    due("on from the last one", x.on(), 1);
    due("value", shown(x), "1");
  }

  @Says("THE IMAGE: all that there is (THE VALUE, THE CHECK)")
  @Broken(in = "public int on() {", find = "now.take(imageTree);", put = "")
  @Broken(in = "public int on() {", find = "gatherer.plan.take(imagePlan);", put = "")
  @Broken(in = "    void take(Tree other) {", find = "copy(other.digit, digit);", put = "")
  @Broken(in = "    void take(Plan other) {", find = "dependentCount = other.dependentCount;", put = "size = 1;")
  static void promise31_allIsAsThen() {
    GathersAllFaults x = with("(a[1,?]b2)", "{a@02#0001b#0001.c*<bc}");
    due("image", x.image(), 5);
    value(x, "(e(d1)c7)");
    check(x, "&*");
    due("then", found(x) + " " + x.waits(), " 0");
    due("on", x.on(), 5);
    due("value", shown(x), "(a[1,?]b2)");
    due("checks", x.count(1), 5);
    due("found", found(x), "17:1 2:3");
    due("waiting", x.waits(), 1);
  }

  @Says("ON from it all is as then (every CHECK and DEPENDENT one of THE CHECK)")
  @Broken(in = "    void take(Plan other) {", find = "copy(other.dependentOther, dependentOther);", put = "")
  @Broken(in = "    void take(Plan other) {", find = "copy(other.free, free);", put = "")
  @Broken(in = "    void take(Plan other) {", find = "copy(other.names, names);", put = "")
  static void promise31_theCheckIsAsThen() {
    GathersAllFaults x = with("(a(a1b1)b(a1b2e3))", "{a{a*b*<ab}b{a*b*.c*=ab=ca}.d#0010}");
    String then = "12:8 25:7 22:9";
    due("found", found(x), then);
    due("waiting", x.waits(), 1);
    x.image();
    check(x, "{a/*{b*c*d*<dc}b@12{d*e*=ed<ed=de}d*}");
    due("found then", found(x), "2:10 4:6");
    due("on", x.on(), 8);
    due("found as then", found(x), then);
    due("waiting as then", x.waits(), 1);
    due("checks", x.count(1), 9);
  }

  @Says("all that there is, but it (THE IMAGE stays, and ON from it is there again)")
  @Broken(in = "public int on() {", find = "return now.size;", put = "imaged = false; return now.size;")
  static void promise31_theImageStays() {
    GathersAllFaults x = with(WHOLE);
    x.image();
    x.drops(2);
    due("on", x.on(), 8);
    x.puts(2, 5);
    due("on again", x.on(), 8);
    due("value", shown(x), WHOLE);
    x.puts(26, 5);
    due("what is put behind it does not change it", x.on(), 8);
    due("value", shown(x), WHOLE);
  }

  @Says("but ... the ROW, letters, REFUSALS")
  @Broken(in = "public int on() {", find = "now.take(imageTree);", put = "now.take(imageTree); toldCount = 0;")
  @Broken(in = "public int on() {", find = "now.take(imageTree);", put = "now.take(imageTree); letterCount = 0;")
  @Broken(in = "public int on() {", find = "now.take(imageTree);", put = "now.take(imageTree); set(refusals, 1, 0);")
  static void promise31_rowLettersAndRefusalsAreNotInIt() {
    GathersAllFaults x = rows(with(WHOLE), 7);
    x.image();
    rows(x, 8);
    tell(x, "(a");
    x.path(-1);
    due("on", x.on(), 8);
    due("in the row", x.count(6), 2);
    due("letters", x.count(7), 2);
    due("refusals", refusals(x), "1 0 0 0 0 0");
    due("the letters go on", value(x, "1)"), 2);
  }

  @Says("on: -3 there is none")
  @Broken(in = "public int on() {", find = "STATE", put = "NOBODY")
  @Broken(in = "public int on() {", find = "!imaged", put = "!imaged && now.size == 1")
  static void promise31_noImageIsRefused() {
    refused("on", with(WHOLE, "{a*}"), -3, y -> y.on());
    refused("on of a new object", new GathersAllFaults(), -3, y -> y.on());
  }

  @Says("0 SIZE, 1 CHECKS in THE CHECK, 2 FAULTS, 3 NUMBERS among PARTS, 5 WAITING, 6 in the ROW, 7 letters")
  @Broken(in = "public int count(int what) {", find = "return gatherer.plan.size;", put = "return gatherer.plan.size - 1;")
  @Broken(in = "public int count(int what) {", find = "return numbers();", put = "return now.size - 1;")
  @Broken(in = "public int count(int what) {", find = "gatherer.gather(now);\n        return gatherer.waiting;",
      put = "return gatherer.waiting;")
  @Broken(in = "public int count(int what) {", find = "return toldCount;", put = "return letterCount;")
  static void promise32_whatThereIs() {
    GathersAllFaults x = with(WHOLE, "&{.a#0001.b*.e*<ab<ae}");
    due("waiting", x.count(5), 3);
    rows(x, 1, 2, 3);
    tell(x, "(a");
    int[] want = {8, 5, 2, 4, 34, 3, 3, 2};
    for (int what = 0; what < want.length; what++) {
      due("count " + what, x.count(what), want[what]);
    }
    due("no numbers", with("[?,()]").count(3), 0);
  }

  @Says("The greatest PATH is that as a number")
  @Broken(in = "private int greatestPath() {", find = "greatest = Math.max(greatest, at(now.road, p));",
      put = "greatest = at(now.road, p);")
  @Broken(in = "private int greatestPath() {", find = "greatest = Math.max(greatest, at(now.road, p));",
      put = "if (at(now.road, p) % 10 > greatest % 10) greatest = at(now.road, p);")
  static void promise32_theGreatestPath() {
    due("of the whole alone", with("5").count(4), 0);
    due("a longer one is greater", with("[(a1),2]").count(4), 61);
    due("of as many digits", with("[[1,2],[3]]").count(4), 76);
    due("not the last one", with("(e1a2)").count(4), 5);
    due("four digits", with("[1,2,3,[4,5,6,[7,8,9,[1,2,3,4]]]]").count(4), 9999);
    GathersAllFaults x = with("(a(b1)c2)");
    x.puts(1, 0);
    due("behind what is put", x.count(4), 3);
  }

  @Says("11 .. 16 REFUSALS -1 .. -6")
  @Broken(in = "public int count(int what) {", find = "what - 10", put = "what - 11")
  @Broken(in = "private int refuse(int code) {", find = "at(refusals, -code) + 1", put = "1")
  static void promise32_refusals() {
    GathersAllFaults x = with(WHOLE);
    x.path(-1);
    x.part(0, 9);
    x.fault(0, 9);
    x.mean(4);
    x.without(0);
    x.below(-1);
    x.loss(1, 0);
    x.letter(256);
    x.row(100);
    x.lots(21, 0, 0);
    x.loss(21, 0);
    due("refusals", refusals(x), "1 3 1 2 0 4");
    due("-5 is told by none", x.count(15), 0);
  }

  @Says("An object is used for at most 512 calls after it has been made")
  @Broken(in = "private int refuse(int code) {", find = "at(refusals, -code) + 1", put = "at(refusals, -code) + 1 & 255")
  @Broken(in = "public final class GathersAllFaults {", find = "FAULTS = 6144", put = "FAULTS = 20")
  static void promise32_512Calls() {
    GathersAllFaults x = new GathersAllFaults();
    for (int k = 1; k <= 511; k++) {
      due("refusal " + k, x.letter(256), -6);
    }
    due("refusals", x.count(16), 511);
    x = with("[[[[1,1,1,1],[1,1,1,1],[1,1,1,1]]]]", "/@33&&&&&&&&&&&&&&&&^@04/^^");
    String found = found(x);
    int waits = x.waits();
    long mend = x.mend(0);
    due("faults", x.faults(), 12);
    for (int k = 0; k < 379; k++) {
      due("mend " + k, x.mend(k % 2), k % 2 == 0 ? mend : 1);
    }
    due("found", found(x), found);
    due("waiting", x.waits(), waits);
    due("the last call", x.count(2), 12);
  }

  @Says("-9 for another what")
  @Broken(in = "public int count(int what) {", find = "what >= 11", put = "what >= 10")
  @Broken(in = "public int count(int what) {", find = "what <= 16", put = "what <= 17")
  @Broken(in = "public int count(int what) {", find = ": NONE", put = ": refuse(OTHER)")
  static void promise32_anotherWhat() {
    GathersAllFaults x = with(WHOLE);
    for (int what : new int[] {-1, 8, 9, 10, 17, 18, -10, Integer.MIN_VALUE, Integer.MAX_VALUE}) {
      due("count " + what, x.count(what), -9);
    }
    due("nothing is counted", refusals(x), "0 0 0 0 0 0");
  }

  @Says("-9 is no refusal")
  @Broken(in = "public int first() {", find = ": NONE", put = ": refuse(OTHER)")
  @Broken(in = "public int judge() {", find = "right ? NONE", put = "right ? refuse(OTHER) - 7")
  @Broken(in = "public int range(int path, int what) {", find = "return NONE;", put = "return refuse(OTHER) - 7;")
  @Broken(in = "public int total() {", find = "return NONE", put = "return refuse(OTHER) - 7")
  static void promise32_noneIsNotCounted() {
    GathersAllFaults x = with("5", "#0005");
    due("first", x.first(), -9);
    due("limited", x.limited(0, 1), -9);
    due("mend", x.mend(0), -9);
    due("mend", x.mend(1), -9);
    due("judge", x.judge(), -9);
    x.drops(0);
    due("total", x.total(), -9);
    check(x, "{}");
    due("range", x.range(0, 0), -9);
    due("refusals", refusals(x), "0 0 0 0 0 0");
  }
}
