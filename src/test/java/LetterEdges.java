/** Promises 1 to 4 at their edges: a new object, letters, the value and the check that they tell. */
final class LetterEdges extends Edges {
  private static final String BANGS = "!!!!!!!!!!!!!!!!!!!!!!!!";

  @Says("THE VALUE is a NUMBER 0")
  @Broken(in = "    Tree() {", find = "size = 1;", put = "size = 1; num[0] = 1;")
  @Broken(in = "    Tree() {", find = "size = 1;", put = "size = 1; kind[0] = NOTHING;")
  static void promise01_theValueIsANumber0() {
    GathersAllFaults x = new GathersAllFaults();
    due("kind", x.part(0, 0), 0);
    due("number", x.part(0, 1), 0);
    due("size", x.part(0, 2), 1);
    due("size", x.count(0), 1);
    due("path of the second part", x.path(1), -1);
  }

  @Says("THE CHECK is \"*\"")
  @Broken(in = "    Plan() {", find = "'*'", put = "'{'")
  @Broken(in = "    Plan() {", find = "'*'", put = "'!'")
  static void promise01_theCheckIsAStar() {
    GathersAllFaults x = new GathersAllFaults();
    due("checks", x.count(1), 1);
    due("faults", x.faults(), 0);
    due("waiting", x.waits(), 0);
    x.drops(0);
    due("faults of nothing", x.faults(), 0);
    due("total of nothing", x.total(), 0);
    value(x, "(a1)");
    due("faults of a record", x.faults(), 0);
  }

  @Says("A new object: no image, row, letters, refusals")
  @Broken(in = "public int on() {", find = "!imaged", put = "imaged")
  @Broken(in = "public GathersAllFaults() {", find = "{", put = "{ toldCount = 1;")
  @Broken(in = "public GathersAllFaults() {", find = "{", put = "{ letterCount = 1;")
  @Broken(in = "public GathersAllFaults() {", find = "{", put = "{ set(refusals, 5, 1);")
  static void promise01_nothingElseIsThere() {
    GathersAllFaults x = new GathersAllFaults();
    due("in the row", x.count(6), 0);
    due("letters", x.count(7), 0);
    due("refusals", refusals(x), "0 0 0 0 0 0");
    due("on", x.on(), -3);
  }

  @Says("A letter (0 .. 255) comes")
  @Broken(in = "public int letter(int c) {", find = "c < 0", put = "c < 1")
  static void promise02_theLeastLetterIs0() {
    GathersAllFaults x = new GathersAllFaults();
    due("letter 0", x.letter(0), 1);
    due("letters", x.count(7), 1);
    due("letter 0 begins no value", x.value(), -1000);
  }

  @Says("A letter (0 .. 255) comes")
  @Broken(in = "public int letter(int c) {", find = "c > 255", put = "c > 254")
  static void promise02_theGreatestLetterIs255() {
    GathersAllFaults x = new GathersAllFaults();
    due("letter 255", x.letter(255), 1);
    due("letters", x.count(7), 1);
    due("letter 255 begins no check", x.check(), -1000);
  }

  @Says("letter: -4")
  @Broken(in = "public int letter(int c) {", find = "c < 0", put = "c < -1")
  @Broken(in = "public int letter(int c) {", find = "BELOW", put = "ROOM")
  static void promise02_belowTheLeastIsRefused() {
    GathersAllFaults x = tell(new GathersAllFaults(), "(a");
    refused("letter -1", x, -4, y -> y.letter(-1));
    refused("letter -2147483648", x, -4, y -> y.letter(Integer.MIN_VALUE));
    due("the letters go on", value(x, "7)"), 2);
  }

  @Says("letter: -6 (255; ...)")
  @Broken(in = "public int letter(int c) {", find = "c > 255", put = "c > 256")
  @Broken(in = "public int letter(int c) {", find = "ROOM", put = "BELOW")
  static void promise02_aboveTheGreatestIsRefused() {
    GathersAllFaults x = tell(new GathersAllFaults(), "(a");
    refused("letter 256", x, -6, y -> y.letter(256));
    refused("letter 304, a 0 but for 256", x, -6, y -> y.letter(304));
    refused("letter 2147483647", x, -6, y -> y.letter(Integer.MAX_VALUE));
    due("the letters go on", value(x, "7)"), 2);
  }

  @Says("letters (96 at most); -6 (..., 96, too)")
  @Broken(in = "public final class GathersAllFaults {", find = "LETTERS = 96", put = "LETTERS = 97")
  @Broken(in = "public final class GathersAllFaults {", find = "LETTERS = 96", put = "LETTERS = 95")
  static void promise02_96LettersAreAllThatThereIsRoomFor() {
    GathersAllFaults x = new GathersAllFaults();
    for (int k = 1; k <= 96; k++) {
      due("letter " + k, x.letter('['), k);
    }
    refused("letter 97", x, -6, y -> y.letter('['));
    due("letters", x.count(7), 96);
    due("what lacks behind 96", x.value(), -1096);
    due("then there is room", x.letter('1'), 1);
  }

  @Says("the first that fits in the order in which it tells them: -4; -6")
  @Broken(in = "public int letter(int c) {", find = "c < 0", put = "c < 0 && letterCount < LETTERS")
  static void promise02_belowTheLeastGoesAheadOfNoRoom() {
    GathersAllFaults x = tell(new GathersAllFaults(), "[".repeat(96));
    refused("letter -1, the 97th", x, -4, y -> y.letter(-1));
    refused("letter 256, the 97th", x, -6, y -> y.letter(256));
  }

  @Says("no letters: kind 1 at 0")
  @Broken(in = "int read(int[] signs, int many) {", find = "place >= 0", put = "place > 0")
  static void promise03_noLettersAreKind1At0() {
    valueIs("", -1000);
  }

  @Says("the place of the first letter with which no VALUE can go on")
  @Broken(in = "private boolean begins(int c) {\n      if (c == '('", find = "return lone || c == '?'",
      put = "return lone || c == '?' || c == ' '")
  @Broken(in = "private static boolean isDigit(int c) {", find = "c >= '0'", put = "c >= '/'")
  @Broken(in = "private static boolean isDigit(int c) {", find = "c <= '9'", put = "c <= ':'")
  @Broken(in = "private static boolean isDigit(int c) {", find = "c >= '0' && c <= '9'",
      put = "(c & 127) >= '0' && (c & 127) <= '9'")
  static void promise03_whatCannotBeginAValue() {
    for (String text : new String[] {")", "]", ",", "a", "*", " ", "-1", "/", ":", "A", "\0", "\u00b1", "\u00ff"}) {
      valueIs(text, -1000);
    }
    valueIs("[a]", -1001);
    valueIs("[[)]]", -1002);
    valueIs("[1,)]", -1003);
    valueIs("[1, 2]", -1003);
  }

  @Says("RECORD: \"(\", fields (a NAME, a VALUE) one behind the other, \")\"")
  @Broken(in = "private static boolean isName(int c) {", find = "c <= 'e'", put = "c <= 'f'")
  @Broken(in = "private static boolean isName(int c) {", find = "c >= 'a'", put = "c >= '`'")
  @Broken(in = "case FIELDS:\n          state = WANTED;", find = "c == ')' ?", put = "c == ')' || c == ']' ?")
  static void promise03_whatCannotStandInARecord() {
    valueIs("(1)", -1001);
    valueIs("(f1)", -1001);
    valueIs("(`1)", -1001);
    valueIs("(A1)", -1001);
    valueIs("(]", -1001);
    valueIs("(,)", -1001);
    valueIs("(a)", -1002);
    valueIs("(aa1)", -1002);
    valueIs("(a1]", -1003);
    valueIs("(a1,b2)", -1003);
    valueIs("(a?2)", -1003);
    valueIs("(a1b)", -1004);
    valueIs("(a(b1]", -1005);
  }

  @Says("LIST: \"[\", elements with \",\" between them (or none), \"]\"")
  @Broken(in = "case MORE:\n          state = WANTED;", find = "c == ','", put = "c == ',' || c == ';'")
  @Broken(in = "case FIRST:\n", find = "begins(c)", put = "c == ',' || begins(c)")
  @Broken(in = "case WANTED:\n          return begins(c);\n        case FIRST:", find = "begins(c)",
      put = "top() == '[' && c == ']' ? closes() : begins(c)")
  static void promise03_whatCannotStandInAList() {
    valueIs("[,1]", -1001);
    valueIs("[)", -1001);
    valueIs("[1)", -1002);
    valueIs("[1;2]", -1002);
    valueIs("[1a2]", -1002);
    valueIs("[?1]", -1002);
    valueIs("[1[2]]", -1002);
    valueIs("[1,]", -1003);
    valueIs("[1,,2]", -1003);
    valueIs("[[],]", -1004);
  }

  @Says("A third digit of a NUMBER is a letter that cannot go on")
  @Broken(in = "boolean second = lone && isDigit(c);", find = "lone && isDigit(c)", put = "lone && isDigit(c) && false")
  @Broken(in = "boolean second = lone && isDigit(c);", find = "lone = false;", put = "lone = second;")
  static void promise03_aThirdDigitCannotGoOn() {
    valueIs("123", -1002);
    valueIs("000", -1002);
    valueIs("[123]", -1003);
    valueIs("[1,23,456]", -1008);
    valueIs("(a123)", -1004);
    valueIs("(a12b345)", -1007);
    valueIs("(a12b34)", 3);
  }

  @Says("kind 1: a letter behind the whole VALUE")
  @Broken(in = "private void ends() {\n      if (height == 0) {\n        state = ENDED;\n      } else {",
      find = "state = ENDED", put = "state = WANTED")
  @Broken(in = "case FIELDS:\n          state = WANTED;\n          return c == ')' ? closes() : isName(c);",
      find = "default:\n          return false", put = "default:\n          return c == ')'")
  static void promise03_nothingCanStandBehindTheWhole() {
    valueIs("1?", -1001);
    valueIs("?1", -1001);
    valueIs("()1", -1002);
    valueIs("())", -1002);
    valueIs("[]]", -1002);
    valueIs("[1]2", -1003);
    valueIs("(a1)b2", -1004);
    valueIs("1 ", -1001);
    valueIs("1,2", -1001);
  }

  @Says("the place of ... (the end, if something lacks): -1000 less the place")
  @Broken(in = "private int stumble(int[] signs, int many) {", find = "-1 : many", put = "-1 : many - 1")
  @Broken(in = "private int stumble(int[] signs, int many) {", find = "state == ENDED ? -1 : many",
      put = "height == 0 ? -1 : many")
  static void promise03_whatLacksIsToldAtTheEnd() {
    for (String text : new String[] {"(", "[", "(a", "(a1", "(a12", "(a1b", "[1", "[12", "[1,", "[[]", "(a()", "[(a1",
        "[1,2,3,4", "(a[1,2]b(c?)"}) {
      valueIs(text, -1000 - text.length());
    }
    valueIs("", -1000);
    valueIs("[".repeat(96), -1096);
    valueIs("(a".repeat(48), -1096);
  }

  @Says("a field whose NAME is there already: the place of its NAME")
  @Broken(in = "return made.child(top(), digit) < 0;", find = "made.child(top(), digit) < 0", put = "true")
  static void promise03_aFieldToldTwiceIsKind2AtItsName() {
    valueIs("(a1a2)", -2003);
    valueIs("(a12a3)", -2004);
    valueIs("(a1b2a3)", -2005);
    valueIs("(a1b2b3)", -2005);
    valueIs("(e?e?)", -2003);
    valueIs("(a(b1c2)b3a4)", -2010);
    valueIs("(a(b1b2)c3)", -2005);
    valueIs("[(a1),(b1b2)]", -2009);
  }

  @Says("no NAME twice (in one RECORD)")
  @Broken(in = "return made.child(top(), digit) < 0;", find = "top()", put = "0")
  static void promise03_anotherRecordMayHaveTheSameName() {
    valueIs("(a(a1)b(a2))", 5);
    valueIs("[(a1),(a2),(a3)]", 7);
    valueIs("(a(a(a(a?))))", 5);
  }

  @Says("a LIST (0 .. 4 elements); a fifth element ... kind 2 at its first letter")
  @Broken(in = "private boolean adds(int kind, int num) {", find = "before >= ELEMENTS", put = "before > ELEMENTS")
  @Broken(in = "private boolean adds(int kind, int num) {", find = "before >= ELEMENTS", put = "before >= ELEMENTS - 1")
  static void promise03_aFifthElementIsKind2AtItsFirstLetter() {
    valueIs("[1,2,3,4]", 5);
    valueIs("[1,2,3,4,5]", -2009);
    valueIs("[1,2,3,4,56]", -2009);
    valueIs("[1,2,3,4,5,6]", -2009);
    valueIs("[11,22,33,44,(a1)]", -2013);
    valueIs("(b[?,?,?,?,?])", -2011);
    valueIs("[[1,2,3,4,5],2]", -2010);
    valueIs("[[1,2,3,4],2,3,4]", 9);
  }

  @Says("A PATH has 4 digits at most; a PATH of 5 digits")
  @Broken(in = "private boolean adds(int kind, int num) {", find = "height > DIGITS", put = "height > DIGITS + 1")
  @Broken(in = "private boolean adds(int kind, int num) {", find = "height > DIGITS", put = "height >= DIGITS")
  static void promise03_aPathOfFiveDigitsIsKind2AtItsFirstLetter() {
    valueIs("(a(b(c(d1))))", 5);
    valueIs("[[[[1]]]]", 5);
    valueIs("[[[[[]]]]]", 5);
    valueIs("(a(b(c(d()))))", 5);
    valueIs("[[[[[1]]]]]", -2005);
    valueIs("(a(a(a(a(a1)))))", -2010);
    valueIs("(a[(b[(c?)])])", -2008);
    valueIs("[1,[2,[3,[4,[5]]]]]", -2013);
  }

  @Says("20 at most; a 21st PART")
  @Broken(in = "public final class GathersAllFaults {", find = "PARTS = 20", put = "PARTS = 21")
  @Broken(in = "public final class GathersAllFaults {", find = "PARTS = 20", put = "PARTS = 19")
  static void promise03_a21stPartIsKind2AtItsFirstLetter() {
    String three = "[(a1b1c1d1e1),(a1b1c1d1e1),(a1b1c1d1e1),";
    valueIs(three + "()]", 20);
    valueIs(three + "12]", 20);
    valueIs(three + "(a1)]", -2042);
    valueIs(three + "(a12b3c4)]", -2042);
    valueIs(three + "[[]]]", -2041);
    valueIs("[[1,1,1,1],[1,1,1,1],[1,1,1,1],[1,1,1]]", 20);
    valueIs("[[1,1,1,1],[1,1,1,1],[1,1,1,1],[1,1,1,1]]", -2038);
  }

  @Says("kind 1 ...; else kind 2")
  @Broken(in = "int read(int[] signs, int many) {", find = "if (place >= 0) {", put = "if (build(signs, many) < 0) {")
  static void promise03_kind1GoesAheadOfKind2() {
    valueIs("(a1a2", -1005);
    valueIs("(a1a2)?", -1006);
    valueIs("(a1a2]", -1005);
    valueIs("[1,2,3,4,5", -1010);
    valueIs("[1,2,3,4,5,]", -1011);
    valueIs("[[[[[[", -1006);
    valueIs("(a1a234)", -1006);
  }

  @Says("the first letter of the first PART (as they begin) that is not as it must be")
  @Broken(in = "return made.child(top(), digit) < 0;", find = "made.child(top(), digit) < 0", put = "true")
  @Broken(in = "private boolean adds(int kind, int num) {", find = "before >= ELEMENTS", put = "before > ELEMENTS")
  static void promise03_theFirstOfSeveralOfKind2() {
    valueIs("(a[1,2,3,4,5]a1)", -2011);
    valueIs("(a1a[1,2,3,4,5])", -2003);
    valueIs("[1,2,3,[[[[[1]]]]],5]", -2011);
    valueIs("[1,2,3,4,[1,2,3,4,5]]", -2009);
    valueIs("(a1a(b1b2))", -2003);
    valueIs("(a(b1b2)a3)", -2005);
    valueIs("[1,2,3,4,(a1a2)]", -2009);
  }

  @Says("It becomes THE VALUE (with a FAULT it does not)")
  @Broken(in = "public int value() {", find = "return fault;", put = "now.take(valueReader.made); return fault;")
  static void promise03_withAFaultTheValueStays() {
    GathersAllFaults x = with("(b7a[1,?])");
    due("kind 1", value(x, "(a1"), -1003);
    due("value", shown(x), "(b7a[1,?])");
    due("kind 2", value(x, "[1,2,3,4,5]"), -2009);
    due("value", shown(x), "(b7a[1,?])");
    due("none", value(x, ""), -1000);
    due("value", shown(x), "(b7a[1,?])");
    due("size", x.count(0), 5);
  }

  @Says("The letters become THE VALUE, and are no more")
  @Broken(in = "public int value() {", find = "letterCount = 0;", put = "letterCount = fault == 0 ? letterCount : 0;")
  static void promise03_theLettersAreNoMore() {
    GathersAllFaults x = new GathersAllFaults();
    due("value", value(x, "(a1)"), 2);
    due("letters", x.count(7), 0);
    due("no letters are left", x.value(), -1000);
    due("the next letter", x.letter('?'), 1);
    due("the next value", x.value(), 1);
  }

  @Says("The letters ... are no more (the next VALUE is told by its own letters alone)")
  @Broken(in = "int next = i + 1 < many", find = "i + 1 < many", put = "i + 1 <= many")
  @Broken(in = "private int stumble(int[] signs, int many) {", find = "lone = false;", put = "")
  @Broken(in = "int build(int[] signs, int many) {\n      made.size = 0;\n      digit = 0;", find = "made.size = 0;",
      put = "if (made.size == 1) made.size = 0;")
  static void promise03_theLettersBeforeLeaveNothing() {
    GathersAllFaults x = new GathersAllFaults();
    due("two digits", value(x, "12"), 1);
    due("one digit", value(x, "3"), 1);
    due("number", x.part(0, 1), 3);
    due("one more", value(x, "4"), 1);
    due("number", x.part(0, 1), 4);
    due("kind 1 behind a digit", value(x, "[1"), -1002);
    due("one digit", value(x, "5"), 1);
    due("kind 1 behind a lot", value(x, "(a(b[1,2"), -1008);
    due("a list", value(x, "[6,7]"), 3);
    due("kind 2 behind a lot", value(x, "(a(b[1,2])a(c1))"), -2010);
    due("a record", value(x, "(a(c1))"), 3);
    due("value", shown(x), "(a(c1))");
  }

  @Says("and are no more (with a FAULT neither)")
  @Broken(in = "public int value() {", find = "letterCount = 0;", put = "letterCount = fault == 0 ? 0 : letterCount;")
  static void promise03_theLettersAreNoMoreWithAFaultNeither() {
    GathersAllFaults x = new GathersAllFaults();
    due("kind 1", value(x, "(a"), -1002);
    due("letters", x.count(7), 0);
    due("the next value", value(x, "5"), 1);
    due("kind 2", value(x, "(a1a2)"), -2003);
    due("letters", x.count(7), 0);
    due("the next letter", x.letter('?'), 1);
  }

  @Says("the FAULT of the letters (nothing is counted)")
  @Broken(in = "public int value() {", find = "return fault;", put = "refuse(STATE); return fault;")
  static void promise03_aFaultOfTheLettersIsNotCounted() {
    GathersAllFaults x = new GathersAllFaults();
    value(x, "");
    value(x, "(a");
    value(x, "(a1a2)");
    due("refusals", refusals(x), "0 0 0 0 0 0");
  }

  @Says("SIZE (how many PARTS)")
  @Broken(in = "public int value() {", find = "return now.size;", put = "return now.size - 1;")
  static void promise03_theAnswerIsTheSize() {
    valueIs("5", 1);
    valueIs("?", 1);
    valueIs("()", 1);
    valueIs("[]", 1);
    valueIs("(a[]b())", 3);
    valueIs("(a5b12c[3,4,3]d(a1b?)e0)", 11);
  }

  @Says("NUMBER (0 .. 99): 1 or 2 digits")
  @Broken(in = "int n = c - '0';", find = "10 * n", put = "11 * n")
  @Broken(in = "int n = c - '0';", find = "next - '0'", put = "next - '1'")
  static void promise03_aNumberHas1Or2Digits() {
    String[] texts = {"0", "9", "00", "05", "10", "90", "99"};
    int[] numbers = {0, 9, 0, 5, 10, 90, 99};
    for (int k = 0; k < texts.length; k++) {
      GathersAllFaults x = with(texts[k]);
      due("kind of " + texts[k], x.part(0, 0), 0);
      due("number " + texts[k], x.part(0, 1), numbers[k]);
    }
    due("at the end of a list", shown(with("[1,23,4,56]")), "[1,23,4,56]");
    due("at the end of a record", shown(with("(a98b7)")), "(a98b7)");
  }

  @Says("a RECORD (... none, too) or a LIST (0 .. 4 elements)")
  @Broken(in = "case FIRST:\n", find = "c == ']' ? closes() : begins(c)", put = "begins(c)")
  @Broken(in = "private boolean begins(int c) {\n      if (c == '('", find = "? FIELDS", put = "? 9")
  static void promise03_recordsAndListsMayHaveNone() {
    due("record", with("()").part(0, 0), 2);
    due("list", with("[]").part(0, 0), 3);
    due("both in one", shown(with("(a()b[]c[(),[]])")), "(a()b[]c[(),[]])");
  }

  @Says("PATH: 0 of the whole; 10 times and 1 .. 5 for fields a .. e, 6 .. 9 for elements 0 .. 3")
  @Broken(in = "private static int digitOf(int name) {", find = "+ 1", put = "+ 0")
  @Broken(in = "    void link() {", find = "6 + k", put = "5 + k")
  static void promise03_pathsOfFieldsAndElements() {
    GathersAllFaults x = with("(e[0,1,2,3]a4b5c6d7)");
    int[] paths = {0, 5, 56, 57, 58, 59, 1, 2, 3, 4};
    for (int i = 0; i < paths.length; i++) {
      due("path " + i, x.path(i), paths[i]);
    }
    due("four digits", with("[0,0,0,[(e[1])]]").path(7), 9656);
  }

  @Says("no letters: kind 1 at 0 (A CHECK is told likewise)")
  @Broken(in = "int read(int[] signs, int many) {", find = "place >= 0", put = "place > 0")
  static void promise04_noLettersAreKind1At0() {
    checkIs("", -1000);
  }

  @Says("kind 1 likewise: the first letter with which no CHECK can go on")
  @Broken(in = "case '!':\n        case '~':\n        case '&':\n          return true;", find = "case '/':",
      put = "case '+': case '/':")
  static void promise04_whatCannotBeginACheck() {
    for (String text : new String[] {"a", "1", "}", "<", "=", ".", "?", "(", " ", "+", "\0", "\u00aa", "\u00ff"}) {
      checkIs(text, -1000);
      checkIs("!" + text, -1001);
      checkIs("@12" + text, -1003);
      checkIs("/*" + text, -1002);
    }
  }

  @Says("\"#\" LOW HIGH (2 digits each)")
  @Broken(in = "owed = c == '#' ? 4 : 2;", find = "4 : 2", put = "3 : 2")
  @Broken(in = "owed = c == '#' ? 4 : 2;", find = "4 : 2", put = "5 : 2")
  static void promise04_aHashWantsFourDigits() {
    checkIs("#0510", 1);
    checkIs("#x", -1001);
    checkIs("#0*", -1002);
    checkIs("#05#", -1003);
    checkIs("#051*", -1004);
    checkIs("#05101", -1005);
    checkIs("#0510*", -1005);
  }

  @Says("\"@\" LOW HIGH (a digit each) CHECK")
  @Broken(in = "owed = c == '#' ? 4 : 2;", find = "4 : 2", put = "4 : 1")
  @Broken(in = "owed = c == '#' ? 4 : 2;", find = "leads = c == '@'", put = "leads = false")
  static void promise04_anAtWantsTwoDigitsAndACheck() {
    checkIs("@09*", 2);
    checkIs("@99*", 2);
    checkIs("@*", -1001);
    checkIs("@1*", -1002);
    checkIs("@123*", -1003);
    checkIs("@12}", -1003);
    checkIs("@12**", -1004);
  }

  @Says("a field is a NAME (or \".\" and a NAME: it may lack) and a CHECK")
  @Broken(in = "private boolean field(int c) {", find = "state = NAME", put = "state = FIELDS")
  @Broken(in = "case NAME:\n          state = WANTED;", find = "isName(c)", put = "true")
  static void promise04_aFieldIsANameAndACheck() {
    checkIs("{f*}", -1001);
    checkIs("{`*}", -1001);
    checkIs("{*}", -1001);
    checkIs("{,}", -1001);
    checkIs("{a}", -1002);
    checkIs("{aa*}", -1002);
    checkIs("{a.b*}", -1002);
    checkIs("{.}", -1002);
    checkIs("{..a*}", -1002);
    checkIs("{.f*}", -1002);
    checkIs("{.<aa}", -1002);
    checkIs("{a*,b*}", -1003);
    checkIs("{.a.b*}", -1003);
  }

  @Says("\"{\" fields, then DEPENDENT ones \"}\"")
  @Broken(in = "case LAST:\n          return last(c);", find = "last(c)", put = "last(c) || field(c)")
  static void promise04_noFieldStandsBehindADependentOne() {
    checkIs("{a*<aab*}", -1006);
    checkIs("{a*=aa.b*}", -1006);
    checkIs("{a*<aa*", -1006);
    checkIs("{a*<aa=aa<aa}", 2);
  }

  @Says("\"<\" NAME NAME or \"=\" NAME NAME")
  @Broken(in = "private boolean last(int c) {", find = "owed = 2", put = "owed = 1")
  @Broken(in = "case PAIR:\n          owed--;", find = "return isName(c)", put = "return isName(c) || c == 'f'")
  static void promise04_aDependentOneHasTwoNames() {
    checkIs("{a*<}", -1004);
    checkIs("{a*=.aa}", -1004);
    checkIs("{a*<fa}", -1004);
    checkIs("{a*<a}", -1005);
    checkIs("{a*=a*", -1005);
    checkIs("{a*=af}", -1005);
  }

  @Says("kind 1: a letter behind the whole CHECK")
  @Broken(in = "private void ends() {\n      if (height == 0) {\n        state = ENDED;\n      } else if",
      find = "state = ENDED", put = "state = WANTED")
  static void promise04_nothingCanStandBehindTheWhole() {
    checkIs("**", -1001);
    checkIs("*}", -1001);
    checkIs("^^", -1001);
    checkIs("{}}", -1002);
    checkIs("{}*", -1002);
    checkIs("!**", -1002);
    checkIs("/***", -1003);
    checkIs("@12*,", -1004);
  }

  @Says("the end, if something lacks (kind 1 likewise)")
  @Broken(in = "private int stumble(int[] signs, int many) {", find = "state == ENDED ? -1 : many",
      put = "state == ENDED || state == 4 ? -1 : many")
  @Broken(in = "private int stumble(int[] signs, int many) {", find = "-1 : many", put = "-1 : many - 1")
  static void promise04_whatLacksIsToldAtTheEnd() {
    for (String text : new String[] {"!", "~", "&", "/", "/*", "#", "#0", "#051", "@", "@1", "@12", "{", "{a", "{.",
        "{.a", "{a*", "{a*<", "{a*<a", "{a*<aa", "{a{b*}", "/{a*}", "&!~"}) {
      checkIs(text, -1000 - text.length());
    }
    checkIs("{a".repeat(48), -1096);
    checkIs("/".repeat(96), -1096);
  }

  @Says("kind 2: LOW above HIGH")
  @Broken(in = "private boolean adds(int sign, int low, int high) {", find = "low > high", put = "low >= high")
  @Broken(in = "private boolean adds(int sign, int low, int high) {", find = "low > high", put = "low > high + 1")
  @Broken(in = "return adds(c, at(signs, i + 1) - '0', at(signs, i + 2) - '0');", find = "at(signs, i + 1) - '0'",
      put = "0")
  static void promise04_lowAboveHighIsKind2() {
    checkIs("#0909", 1);
    checkIs("#0000", 1);
    checkIs("#9999", 1);
    checkIs("@44*", 2);
    checkIs("@00*", 2);
    checkIs("#1009", -2000);
    checkIs("#9900", -2000);
    checkIs("@10*", -2000);
    checkIs("@98*", -2000);
    checkIs("!#1009", -2001);
    checkIs("{a#1009}", -2002);
    checkIs("@04#1009", -2003);
    checkIs("/#0010#1009", -2006);
  }

  @Says("kind 2: a field's NAME that is there already (the place of its first sign)")
  @Broken(in = "private boolean addsField(int itsDigit, int itsFree) {", find = "made.knows(holder, itsDigit)",
      put = "made.knows(holder, itsDigit) && itsFree == 0")
  @Broken(in = "private boolean addsField(int itsDigit, int itsFree) {", find = "made.knows(holder, itsDigit)",
      put = "made.knows(holder, itsDigit) && itsFree == 1")
  static void promise04_aFieldToldTwiceIsKind2() {
    checkIs("{a*a*}", -2003);
    checkIs("{.a*a*}", -2004);
    checkIs("{a*.a*}", -2003);
    checkIs("{.e*.e*}", -2004);
    checkIs("{a*b*c*b*}", -2007);
    checkIs("{a{b*}b*a*}", -2008);
    checkIs("{a{b*b*}}", -2005);
  }

  @Says("a field's NAME that is there already (another \"{\" may have it)")
  @Broken(in = "private boolean addsField(int itsDigit, int itsFree) {", find = "int holder = top();",
      put = "int holder = 0;")
  static void promise04_anotherRecordsCheckMayHaveTheSameName() {
    checkIs("{a{a*}b{a*b*}}", 6);
    checkIs("/{a*}{a*}", 5);
  }

  @Says("\"^\" elsewhere: it must stand in a field's or in an element's CHECK")
  @Broken(in = "private boolean canReturn() {", find = "return false;\n    }", put = "return true;\n    }")
  @Broken(in = "private boolean canReturn() {", find = "sign == '{' || sign == '@'", put = "true")
  static void promise04_theWholeElsewhereIsKind2() {
    checkIs("^", -2000);
    checkIs("!^", -2001);
    checkIs("~^", -2001);
    checkIs("&^", -2001);
    checkIs("/^*", -2001);
    checkIs("/*^", -2002);
    checkIs("/{}^", -2003);
    checkIs("/{a*}^", -2005);
    checkIs("/@04*^", -2005);
    checkIs("/@04^^", -2005);
  }

  @Says("\"^\" must stand in a field's or in an element's CHECK")
  @Broken(in = "private boolean canReturn() {", find = "sign == '{' ||", put = "")
  @Broken(in = "private boolean canReturn() {", find = "|| sign == '@'", put = "")
  static void promise04_theWholeStandsInAFieldOrAnElement() {
    checkIs("{a^}", 2);
    checkIs("{.a^}", 2);
    checkIs("@04^", 2);
    checkIs("{a!^}", 3);
    checkIs("@04~&^", 4);
    checkIs("&{a/*^}", 5);
    checkIs("/*@04^", 4);
    checkIs("{a{}b^}", 3);
  }

  @Says("\"^\" ... or a fourth one")
  @Broken(in = "public final class GathersAllFaults {", find = "RETURNS = 3", put = "RETURNS = 4")
  @Broken(in = "public final class GathersAllFaults {", find = "RETURNS = 3", put = "RETURNS = 2")
  static void promise04_aFourthWholeIsKind2() {
    checkIs("{a^b^c^}", 4);
    checkIs("{a^b^c^d^}", -2008);
    checkIs("@04/^/^^", 6);
    checkIs("@04//^^/^^", -2009);
    checkIs("{a{a^b^}b@04^c{e^}}", -2016);
  }

  @Says("kind 2: a NAME of a DEPENDENT one that no field of it has")
  @Broken(in = "private boolean addsDependent(int sign, int one, int other) {", find = "!made.knows(holder, one) ||",
      put = "")
  @Broken(in = "private boolean addsDependent(int sign, int one, int other) {", find = "|| !made.knows(holder, other)",
      put = "")
  static void promise04_aNameOfADependentOneThatNoFieldHas() {
    checkIs("{a*b*<ab=ba}", 3);
    checkIs("{.a*.b*<ab}", 3);
    checkIs("{a*<ab}", -2003);
    checkIs("{a*<ba}", -2003);
    checkIs("{a*=ae}", -2003);
    checkIs("{a*=ea}", -2003);
    checkIs("{<aa}", -2001);
    checkIs("{a*b*<ab<ac<ba}", -2008);
  }

  @Says("a NAME of a DEPENDENT one that no field OF IT has")
  @Broken(in = "private boolean addsDependent(int sign, int one, int other) {", find = "int holder = top();",
      put = "int holder = 0;")
  static void promise04_aFieldOfAnotherRecordsCheckDoesNotCount() {
    checkIs("{a{b*}<ab}", -2006);
    checkIs("{a*b{c*<ac}}", -2007);
    checkIs("{a{b*c*<bc}}", 4);
  }

  @Says("a 25th CHECK in all")
  @Broken(in = "public final class GathersAllFaults {", find = "CHECKS = 24", put = "CHECKS = 25")
  @Broken(in = "public final class GathersAllFaults {", find = "CHECKS = 24", put = "CHECKS = 23")
  static void promise04_a25thCheckIsKind2() {
    checkIs(BANGS.substring(1) + "*", 24);
    checkIs(BANGS + "*", -2024);
    checkIs(BANGS + "!*", -2024);
    checkIs("{a" + BANGS.substring(2) + "*}", 24);
    checkIs("{a" + BANGS.substring(2) + "*b*}", -2026);
    checkIs("{a" + BANGS.substring(2) + "*b#0010c*}", -2026);
  }

  @Says("\"^\" counts as a CHECK")
  @Broken(in = "private boolean canReturn() {", find = "returns++;", put = "returns++; made.size--;")
  static void promise04_theWholeCountsAsACheck() {
    checkIs("@04^", 2);
    checkIs("@04" + BANGS.substring(2) + "^", 24);
    checkIs("@04" + BANGS.substring(1) + "^", -2026);
    checkIs("{a^b^c^}", 4);
  }

  @Says("DEPENDENT ones do not (count as CHECKS)")
  @Broken(in = "void depend(int check, int itsSign, int one, int other) {", find = "dependentCount++;",
      put = "dependentCount++; size++;")
  static void promise04_dependentOnesDoNotCountAsChecks() {
    checkIs("{a*<aa}", 2);
    checkIs("{a" + BANGS.substring(2) + "*<aa=aa<aa}", 24);
    due("count", with("5", "{a*b*<ab=ab<ba}").count(1), 3);
  }

  @Says("the first sign of the first CHECK, field or DEPENDENT one (as they begin) that is not as it must be")
  @Broken(in = "private boolean adds(int sign, int low, int high) {", find = "low > high ||", put = "")
  @Broken(in = "private boolean addsField(int itsDigit, int itsFree) {", find = "made.knows(holder, itsDigit)",
      put = "false")
  static void promise04_theFirstOfSeveralOfKind2() {
    checkIs("{a#0900a*<ab}", -2002);
    checkIs("{a*a#0900}", -2003);
    checkIs("{a*<aba*}", -1006);
    checkIs("@31#0900", -2000);
    checkIs("/#0010/^#0900", -2007);
    checkIs("/#0900^", -2001);
    checkIs("{a{a*a*}a*}", -2005);
  }

  @Says("kind 1 ... ; kind 2 (likewise: else)")
  @Broken(in = "int read(int[] signs, int many) {", find = "if (place >= 0) {", put = "if (build(signs, many) < 0) {")
  static void promise04_kind1GoesAheadOfKind2() {
    checkIs("#0900*", -1005);
    checkIs("{a*a*", -1005);
    checkIs("@31", -1003);
    checkIs("^^", -1001);
    checkIs("{a*<ab", -1006);
    checkIs(BANGS + "!", -1025);
  }

  @Says("It becomes THE CHECK (with a FAULT it does not)")
  @Broken(in = "public int check() {", find = "return fault;", put = "gatherer.plan.take(checkReader.made); return fault;")
  static void promise04_withAFaultTheCheckStays() {
    GathersAllFaults x = with("(a9)", "{a#0005b*}");
    for (String text : new String[] {"", "{a", "#0900", "{a*a*}", BANGS + "*"}) {
      due("a fault of " + text, Math.min(check(x, text), 0), check(new GathersAllFaults(), text));
      due("found behind " + text, found(x), "1:3 2:6");
      due("checks behind " + text, x.count(1), 3);
    }
  }

  @Says("It becomes THE CHECK (whatever was the check before)")
  @Broken(in = "int build(int[] signs, int many) {\n      made.size = 0;\n      made.dependentCount = 0;",
      find = "made.dependentCount = 0;", put = "")
  @Broken(in = "int build(int[] signs, int many) {\n      made.size = 0;\n      made.dependentCount = 0;",
      find = "returns = 0;", put = "")
  @Broken(in = "set(names, size, 0);", find = "set(names, size, 0);", put = "")
  @Broken(in = "set(dependents, size, 0);", find = "set(dependents, size, 0);", put = "")
  static void promise04_theCheckBeforeLeavesNothing() {
    GathersAllFaults x = with("(b1a1)");
    for (int k = 0; k < 20; k++) {
      due("with dependent ones", check(x, "{a*b*<ab=ba}"), 3);
      due("found", found(x) + " " + x.waits(), "2:8 1");
      due("with wholes", check(x, "{.c^.d^.e^}"), 4);
      due("found", found(x) + " " + x.waits(), "2:7 1:7 0");
      due("with none", check(x, "{a*b*}"), 3);
      due("found", found(x) + " " + x.waits(), " 0");
      due("with a fault", check(x, "{.a^.b^<ab<ab<ab<ab<ac}"), -2019);
      due("found", found(x) + " " + x.waits(), " 0");
    }
  }

  @Says("The letters become THE CHECK, and are no more (with a FAULT neither)")
  @Broken(in = "public int check() {", find = "letterCount = 0;", put = "letterCount = fault == 0 ? letterCount : 0;")
  @Broken(in = "public int check() {", find = "letterCount = 0;", put = "letterCount = fault == 0 ? 0 : letterCount;")
  static void promise04_theLettersAreNoMore() {
    GathersAllFaults x = new GathersAllFaults();
    due("check", check(x, "!*"), 2);
    due("letters", x.count(7), 0);
    due("kind 1", check(x, "!"), -1001);
    due("letters", x.count(7), 0);
    due("kind 2", check(x, "#0900"), -2000);
    due("letters", x.count(7), 0);
    due("the next check", check(x, "*"), 1);
  }

  @Says("the FAULT (nothing is counted)")
  @Broken(in = "public int check() {", find = "return fault;", put = "refuse(STATE); return fault;")
  static void promise04_aFaultOfTheLettersIsNotCounted() {
    GathersAllFaults x = new GathersAllFaults();
    check(x, "");
    check(x, "{a");
    check(x, "#0900");
    due("refusals", refusals(x), "0 0 0 0 0 0");
  }

  @Says("how many CHECKS there are in it (itself, too)")
  @Broken(in = "public int check() {", find = "return gatherer.plan.size;", put = "return gatherer.plan.size - 1;")
  static void promise04_theAnswerIsHowManyChecks() {
    checkIs("*", 1);
    checkIs("#0010", 1);
    checkIs("{}", 1);
    checkIs("!*", 2);
    checkIs("/**", 3);
    checkIs("{a*b&*}", 4);
    checkIs("&@04{a#0109b&@04/^#0199}", 9);
    checkIs("/".repeat(11) + "*".repeat(12), 23);
  }

  @Says("A VALUE is told in letters (96 at most); A CHECK is told likewise")
  @Broken(in = "public final class GathersAllFaults {", find = "DEPENDENTS = 32", put = "DEPENDENTS = 29")
  @Broken(in = "public int letter(int c) {", find = ">= LETTERS", put = ">= LETTERS - 1")
  static void promise04_aCheckOf96Letters() {
    String text = "{a*b*" + "<ab".repeat(29) + "=ab}";
    due("letters", tell(new GathersAllFaults(), text).count(7), 96);
    checkIs(text, 3);
    finds(text, "(a1b2)", "2:9");
    waits(text, "(a9)", 30);
    finds("{a*" + "=aa".repeat(29) + "<aa}", "(a1)", "1:8");
  }
}
