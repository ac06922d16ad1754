/** Promises 9 and 13 at their edges: what each check finds, and what waits. */
final class CheckEdges extends Edges {
  @Says("\"*\": finds none")
  @Broken(in = "    private void look(int check, int part, int depth) {", find = "default:", put = "case '*': add(0, 1);")
  static void promise09_aStarFindsNone() {
    for (String value : new String[] {"0", "99", "?", "()", "[]", "(a?b[1,1])"}) {
      finds("*", value, "");
    }
  }

  @Says("\"#\": no NUMBER: 1")
  @Broken(in = "private void lookAtNumber(int check, int part) {", find = "at(tree.kind, part) != NUMBER",
      put = "at(tree.kind, part) > NOTHING")
  @Broken(in = "private void lookAtNumber(int check, int part) {", find = "add(path, 1);\n      } else if",
      put = "add(path, 1);\n      } if")
  static void promise09_noNumberIsCode1Alone() {
    for (String value : new String[] {"?", "()", "[]", "(a7)", "[7]"}) {
      finds("#0510", value, "0:1");
    }
    finds("@04#0510", "[7,?,[7],()]", "7:1 8:1 9:1");
  }

  @Says("\"#\": below LOW: 2")
  @Broken(in = "private void lookAtNumber(int check, int part) {", find = "n < at(plan.low, check)",
      put = "n <= at(plan.low, check)")
  @Broken(in = "private void lookAtNumber(int check, int part) {", find = "n < at(plan.low, check)",
      put = "n < at(plan.low, check) - 1")
  static void promise09_belowLowIsCode2() {
    finds("#0510", "4", "0:2");
    finds("#0510", "0", "0:2");
    finds("#0510", "5", "");
    finds("#9999", "98", "0:2");
  }

  @Says("\"#\": above HIGH: 3")
  @Broken(in = "private void lookAtNumber(int check, int part) {", find = "n > at(plan.high, check)",
      put = "n >= at(plan.high, check)")
  @Broken(in = "private void lookAtNumber(int check, int part) {", find = "n > at(plan.high, check)",
      put = "n > at(plan.high, check) + 1")
  static void promise09_aboveHighIsCode3() {
    finds("#0510", "11", "0:3");
    finds("#0510", "99", "0:3");
    finds("#0510", "10", "");
    finds("#0000", "1", "0:3");
  }

  @Says("LOW HIGH (2 digits each): LOW may be HIGH")
  @Broken(in = "private static int two(int[] signs, int i) {", find = "10 *", put = "11 *")
  static void promise09_lowMayBeHigh() {
    finds("#0707", "7", "");
    finds("#0707", "6", "0:2");
    finds("#0707", "8", "0:3");
    finds("#0000", "0", "");
    finds("#9999", "99", "");
    finds("#0099", "0", "");
    finds("#0099", "99", "");
  }

  @Says("\"!\" CHECK: NOTHING: 4, else by the CHECK")
  @Broken(in = "private int deciderOf(int check, int part) {", find = "add(at(tree.road, part), 4);", put = "")
  @Broken(in = "private int deciderOf(int check, int part) {", find = "if (sign == '!')", put = "")
  static void promise09_aBangFindsCode4InNothing() {
    finds("!*", "?", "0:4");
    finds("!#0510", "?", "0:4");
    finds("!!!*", "?", "0:4");
    finds("~!*", "?", "");
    finds("@04!{a*}", "[?,()]", "6:4 71:6");
  }

  @Says("\"!\" CHECK: ... else by the CHECK")
  @Broken(in = "private int deciderOf(int check, int part) {", find = "c++;", put = "return -1;")
  static void promise09_aBangElseGoesByItsCheck() {
    finds("!#0510", "4", "0:2");
    finds("!#0510", "7", "");
    finds("!#0510", "()", "0:1");
    finds("!!#0510", "11", "0:3");
    finds("!*", "0", "");
  }

  @Says("\"~\" CHECK: NOTHING: none, else by the CHECK")
  @Broken(in = "private int deciderOf(int check, int part) {", find = "sign != '!' && sign != '~'", put = "sign != '!'")
  @Broken(in = "private int deciderOf(int check, int part) {", find = "if (sign == '!')", put = "")
  static void promise09_aTildeFindsNoneInNothing() {
    finds("~#0510", "?", "");
    finds("~{a*}", "?", "");
    finds("~!*", "?", "");
    finds("!~*", "?", "0:4");
    finds("~#0510", "4", "0:2");
    finds("~#0510", "()", "0:1");
    finds("~{a*}", "()", "1:6");
  }

  @Says("\"{\": no RECORD: 5")
  @Broken(in = "private void lookAtRecord(int check, int part, int depth) {", find = "return;", put = "")
  @Broken(in = "private void lookAtRecord(int check, int part, int depth) {", find = "at(tree.kind, part) != RECORD",
      put = "at(tree.kind, part) < RECORD")
  static void promise09_noRecordIsCode5Alone() {
    for (String value : new String[] {"5", "?", "[]", "[(a1)]"}) {
      finds("{a*.b*<ab}", value, "0:5");
      waits("{a*.b*<ab}", value, 0);
      finds("{}", value, "0:5");
    }
  }

  @Says("a field lacks (and must not): 6 at the PATH it would have")
  @Broken(in = "private void lookAtFields(int check, int part, int depth) {",
      find = "add(10 * at(tree.road, part) + digit, 6)", put = "add(at(tree.road, part), 6)")
  static void promise09_whatLacksIsCode6WhereItWouldBe() {
    finds("{a*e*}", "()", "1:6 5:6");
    finds("{a*b{c*}}", "(b())", "1:6 23:6");
    finds("@04{d*}", "[(),()]", "64:6 74:6");
    finds("{a{a{a{a{e*}}}}}", "(a(a(a(a()))))", "11115:6");
  }

  @Says("\".\" and a NAME: it may lack")
  @Broken(in = "private void lookAtFields(int check, int part, int depth) {", find = "at(plan.free, field) == 0",
      put = "true")
  static void promise09_aFieldWithADotMayLack() {
    finds("{.a#0105}", "()", "");
    finds("{.a#0105}", "(a9)", "1:3");
    finds("{.a#0105}", "(a?)", "1:1");
    finds("{.a*b*.c*}", "()", "2:6");
    finds("{a*.b*c*}", "()", "1:6 3:6");
  }

  @Says("by fields as told (not as they stand in the RECORD)")
  @Broken(in = "private void lookAtFields(int check, int part, int depth) {", find = "int digit = at(plan.digit, field);",
      put = "int digit = k + 1;")
  static void promise09_fieldsGoAsTold() {
    finds("{b#0001a#0001}", "(a9b9)", "2:3 1:3");
    finds("{c*b#0001a*}", "(b9)", "3:6 2:3 1:6");
    finds("{e@00#0000a#0000}", "(a1e[1])", "5:11 56:3 1:3");
  }

  @Says("then by fields of the RECORD in its order: one whose NAME no field told has: 7 at its PATH")
  @Broken(in = "private void lookForStrangers(int check, int part) {", find = "!plan.knows(check, at(tree.digit, field))",
      put = "at(tree.digit, field) > at(plan.fields, check)")
  @Broken(in = "private void lookForStrangers(int check, int part) {", find = "at(tree.road, field), 7",
      put = "at(tree.road, part), 7")
  static void promise09_whatNoFieldToldHasIsCode7() {
    finds("{a#0000}", "(e1a5b1)", "1:3 5:7 2:7");
    finds("{e*}", "(a1e1)", "1:7");
    finds("{}", "(b1a1)", "2:7 1:7");
    finds("{}", "()", "");
    finds("{a{}c*}", "(c(b1)a(d(e1)))", "14:7");
    finds("{.a*.b*}", "(c[1,1])", "3:7");
  }

  @Says("then DEPENDENT ones as told")
  @Broken(in = "private void lookAtRecord(int check, int part, int depth) {",
      find = "lookAtFields(check, part, depth);\n      lookForStrangers(check, part);\n"
          + "      int from = at(plan.firstDependent, check);\n      int many = at(plan.dependents, check);\n"
          + "      for (int k = 0; k < many; k++) {\n        lookAtDependent(from + k, part, start);\n      }",
      put = "lookAtFields(check, part, depth);\n      int from = at(plan.firstDependent, check);\n"
          + "      int many = at(plan.dependents, check);\n      for (int k = 0; k < many; k++) {\n"
          + "        lookAtDependent(from + k, part, start);\n      }\n      lookForStrangers(check, part);")
  static void promise09_dependentOnesComeLast() {
    finds("{a*b*<ab}", "(c1a2b1)", "3:7 2:8");
    finds("{a*b*c*=bc<ab}", "(c1a2b2)", "3:9 2:8");
  }

  @Says("\"<\": the one is not less than the other one (both NUMBERS: by them): 8 at the PATH of the other one")
  @Broken(in = "    boolean less(int a, int b) {", find = "at(num, a) < at(num, b)", put = "at(num, a) <= at(num, b)")
  @Broken(in = "private void lookAtDependent(int dependent, int part, int start) {",
      find = "add(at(tree.road, other), 8)", put = "add(at(tree.road, one), 8)")
  static void promise09_notLessIsCode8() {
    finds("{a*b*<ab}", "(a1b2)", "");
    finds("{a*b*<ab}", "(a2b2)", "2:8");
    finds("{a*b*<ab}", "(a3b2)", "2:8");
    finds("{a*b*<ab}", "(a0b99)", "");
    finds("{a*b*<ba}", "(a1b2)", "1:8");
    finds("{a*b*<ba}", "(a2b1)", "");
    finds("{a*<aa}", "(a5)", "1:8");
  }

  @Says("\"<\": else by SIZE")
  @Broken(in = "    boolean less(int a, int b) {", find = "&& at(kind, b) == NUMBER", put = "")
  @Broken(in = "    boolean less(int a, int b) {", find = "at(kind, a) == NUMBER &&", put = "")
  @Broken(in = "    boolean less(int a, int b) {", find = "at(span, a) < at(span, b)", put = "at(kids, a) < at(kids, b)")
  static void promise09_notBothNumbersAreLessBySize() {
    finds("{a*b*<ab}", "(a50b[1])", "");
    finds("{a*b*<ab}", "(a0b?)", "2:8");
    finds("{a*b*<ab}", "(a?b9)", "2:8");
    finds("{a*b*<ab}", "(a[1]b99)", "2:8");
    finds("{a*b*<ab}", "(a[]b())", "2:8");
    finds("{a*b*<ab}", "(a[1,2]b[[[1]]])", "");
    finds("{a*b*<ab}", "(a(a[1,2])b[1,2,3])", "2:8");
    finds("{a*b*<ab}", "(a(c1)b[1,2])", "");
  }

  @Says("\"=\": not the SAME: 9 there")
  @Broken(in = "private void lookAtDependent(int dependent, int part, int start) {",
      find = "add(at(tree.road, other), 9)", put = "add(at(tree.road, one), 9)")
  @Broken(in = "private void lookAtDependent(int dependent, int part, int start) {", find = "!tree.alike(one, other)",
      put = "at(tree.num, one) != at(tree.num, other)")
  static void promise09_notTheSameIsCode9() {
    finds("{a*b*=ab}", "(a1b1)", "");
    finds("{a*b*=ab}", "(a1b2)", "2:9");
    finds("{a*b*=ba}", "(a1b2)", "1:9");
    finds("{a*b*=ab}", "(a?b0)", "2:9");
    finds("{a*b*=ab}", "(a(a1b[2])b(b[2]a1))", "");
    finds("{a*b*=ab}", "(a[1,2]b[2,1])", "2:9");
    finds("{a*=aa}", "(a[1,2])", "");
  }

  @Says("no FAULT found so far in this RECORD is BELOW either of their PATHS ... else it WAITS")
  @Broken(in = "private void lookAtDependent(int dependent, int part, int start) {",
      find = "|| countBelow(at(tree.road, one), start) > 0", put = "")
  @Broken(in = "private void lookAtDependent(int dependent, int part, int start) {",
      find = "|| countBelow(at(tree.road, other), start) > 0", put = "")
  static void promise09_aFaultBelowEitherHoldsADependentOneBack() {
    finds("{a#0005b*<ab}", "(a9b1)", "1:3");
    waits("{a#0005b*<ab}", "(a9b1)", 1);
    finds("{a*b#0005<ab}", "(a9b6)", "2:3");
    waits("{a*b#0005<ab}", "(a9b6)", 1);
    finds("{a#0005b#0005=ab}", "(a9b6)", "1:3 2:3");
    waits("{a#0005b#0005=ab}", "(a9b6)", 1);
  }

  @Says("BELOW a PATH: that PATH itself, and those that go on from it")
  @Broken(in = "private static boolean goesOnFrom(int path, int start) {", find = "rest > start", put = "false")
  static void promise09_aFaultDeeperHoldsItBackToo() {
    finds("{a{b#0005}c*=ac}", "(a(b9)c1)", "12:3");
    waits("{a{b#0005}c*=ac}", "(a(b9)c1)", 1);
    finds("{a*c{a{a{a{b*}}}}=ac}", "(a1c(a(a(a()))))", "31112:6");
    waits("{a*c{a{a{b*}}}=ac}", "(a1c(a(a())))", 1);
  }

  @Says("a FAULT that is not BELOW either of their PATHS holds nothing back")
  @Broken(in = "private void lookAtDependent(int dependent, int part, int start) {",
      find = "countBelow(at(tree.road, one), start) > 0", put = "countBelow(at(tree.road, part), start) > 0")
  static void promise09_aFaultElsewhereInTheRecordHoldsNothingBack() {
    finds("{a*b*c#0001<ab}", "(a2b1c5)", "3:3 2:8");
    waits("{a*b*c#0001<ab}", "(a2b1c5)", 0);
    finds("{a*b*=ab}", "(a1b2c1)", "3:7 2:9");
    finds("{b{a#0000}a*c*<ac}", "(b(a5)a2c1)", "21:3 3:8");
    finds("{a*b*e*=ab}", "(a1b2)", "5:6 2:9");
  }

  @Says("FAULT found so far in THIS RECORD")
  @Broken(in = "private void lookAtRecord(int check, int part, int depth) {", find = "int start = size;",
      put = "int start = 0;")
  static void promise09_faultsOutsideTheRecordHoldNothingBack() {
    finds("@04{a*b*<ab}", "[(a2b1),(a1b2),(a2b1)]", "62:8 82:8");
    finds("{b#0000c{a*b*<ab}}", "(b1c(a2b1))", "2:3 32:8");
    finds("/{a#0000b#0000c*}{.a*.b*<ab}", "(a9b9)", "2:8");
    waits("/{a#0000b#0000c*}{.a*.b*<ab}", "(a9b9)", 0);
  }

  @Says("FAULTS of DEPENDENT ones ahead of it count for it, too")
  @Broken(in = "private void lookAtRecord(int check, int part, int depth) {",
      find = "lookAtDependent(from + k, part, start);", put = "lookAtDependent(from + many - 1 - k, part, start);")
  static void promise09_aDependentOneAheadHoldsItBack() {
    finds("{a*b*c*<ab<bc=ac}", "(a2b1c0)", "2:8 3:9");
    waits("{a*b*c*<ab<bc=ac}", "(a2b1c0)", 1);
    finds("{a*b*=ab=ab<ba}", "(a1b2)", "2:9");
    waits("{a*b*=ab=ab<ba}", "(a1b2)", 2);
    finds("{a*b*c*<bc<ab}", "(a2b1c0)", "3:8 2:8");
  }

  @Says("DEPENDENT ones of a \"{\" go by its own fields")
  @Broken(in = "    void depend(int check, int itsSign, int one, int other) {",
      find = "set(firstDependent, check, dependentCount);", put = "")
  @Broken(in = "    void take(Plan other) {", find = "copy(other.firstDependent, firstDependent);", put = "")
  static void promise09_eachRecordsCheckHasItsOwnDependentOnes() {
    finds("{a{a*b*<ab}b{a*b*=ab}}", "(a(a1b1)b(a1b2))", "12:8 22:9");
    finds("{a{a*b*<ab}b*c*=bc}", "(a(a2b1)b1c2)", "12:8 3:9");
    finds("{a{a*b*<ab=ba}b*c{d*e*=de<ed}<bc}", "(a(a1b2)b9c(d4e5))", "11:9 35:9");
    waits("{a{a*b*<ab=ba}b*c{d*e*=de<ed}<bc}", "(a(a1b2)b9c(d4e5))", 2);
  }

  @Says("\"{\" ... \"}\" in another CHECK, and what is told behind it")
  @Broken(in = "set(made.span, top(), made.size - top());\n          pop();\n          settle();",
      find = "pop();\n          settle();", put = "pop();")
  static void promise09_whatIsToldBehindARecordsCheck() {
    finds("{a!{b*}c*}", "(a(b1)c2)", "");
    finds("{a!{b*}c#0000}", "(a()c2)", "12:6 3:3");
    finds("{a/{b*}{c*}d#0000}", "(a(c1)d5)", "4:3");
    finds("{a@04{b*}.c~{}e&{}<ae}", "(a[(),(b1)]c?e())", "162:6");
    finds("/{a*}{b*}", "(b1)", "");
    finds("//{a*}{b*}{c*}", "(c1)", "");
  }

  @Says("\"@\": no LIST: 10")
  @Broken(in = "private void lookAtList(int check, int part, int depth) {", find = "return;", put = "")
  @Broken(in = "private void lookAtList(int check, int part, int depth) {", find = "at(tree.kind, part) != LIST",
      put = "at(tree.kind, part) < RECORD")
  static void promise09_noListIsCode10Alone() {
    for (String value : new String[] {"5", "?", "()", "(a9b9)"}) {
      finds("@12#0005", value, "0:10");
      finds("@00*", value, "0:10");
    }
    finds("@04@00*", "[1,[],[1]]", "6:10 8:11");
  }

  @Says("\"@\": fewer elements than LOW: 11")
  @Broken(in = "private void lookAtList(int check, int part, int depth) {", find = "many < at(plan.low, check)",
      put = "many <= at(plan.low, check)")
  @Broken(in = "private void lookAtList(int check, int part, int depth) {", find = "many < at(plan.low, check) ||",
      put = "")
  static void promise09_fewerThanLowIsCode11() {
    finds("@12*", "[]", "0:11");
    finds("@12*", "[1]", "");
    finds("@44*", "[1,2,3]", "0:11");
    finds("@44*", "[1,2,3,4]", "");
    finds("@59*", "[1,2,3,4]", "0:11");
    finds("@00*", "[]", "");
  }

  @Says("\"@\": more than HIGH: 11")
  @Broken(in = "private void lookAtList(int check, int part, int depth) {", find = "many > at(plan.high, check)",
      put = "many >= at(plan.high, check)")
  @Broken(in = "private void lookAtList(int check, int part, int depth) {", find = "|| many > at(plan.high, check)",
      put = "")
  static void promise09_moreThanHighIsCode11() {
    finds("@12*", "[1,2]", "");
    finds("@12*", "[1,2,3]", "0:11");
    finds("@00*", "[1]", "0:11");
    finds("@04*", "[1,2,3,4]", "");
    finds("@03*", "[1,2,3,4]", "0:11");
  }

  @Says("then (with 11, too) each element by the CHECK")
  @Broken(in = "private void lookAtList(int check, int part, int depth) {", find = "add(path, 11);",
      put = "add(path, 11); return;")
  static void promise09_eachElementByTheCheckWith11Too() {
    finds("@12#0005", "[1,9,8]", "0:11 7:3 8:3");
    finds("@23#0005", "[9]", "0:11 6:3");
    finds("@04#0005", "[9,[],?,6]", "6:3 7:1 8:1 9:3");
    finds("@04@00*", "[[1,2],[3],[]]", "6:11 7:11");
  }

  @Says("\"&\": each element that is the SAME as an earlier one: 12 at its PATH")
  @Broken(in = "private void lookForTwins(int part, int start) {", find = "e < k && !twin", put = "e < 1 && !twin")
  @Broken(in = "private void lookForTwins(int part, int start) {", find = "e < k && !twin", put = "e < k && e == k - 1")
  static void promise09_eachTwinOfAnEarlierOneIsCode12() {
    finds("&*", "[1,1,1,1]", "7:12 8:12 9:12");
    finds("&*", "[1,2,2,1]", "8:12 9:12");
    finds("&*", "[1,2,1,3]", "8:12");
    finds("&*", "[1,2,3,3]", "9:12");
    finds("&*", "[[],(),?,0]", "");
    finds("&*", "[(a1b2),(b2a1),(a1)]", "7:12");
    finds("&*", "[]", "");
    finds("&*", "[1]", "");
    finds("@04&*", "[[5,5],[5]]", "67:12");
  }

  @Says("\"&\": if that finds none and it is a LIST")
  @Broken(in = "private void lookForTwins(int part, int start) {", find = "at(tree.kind, part) != LIST", put = "false")
  @Broken(in = "    private void look(int check, int part, int depth) {", find = "look(decider + 1, part, depth + 1);",
      put = "")
  static void promise09_twinsAreLookedForInListsOfNoFaults() {
    finds("&*", "(a1b1)", "");
    finds("&*", "5", "");
    finds("&*", "?", "");
    finds("&@04#0005", "[9,9]", "6:3 7:3");
    finds("&@04#0005", "[5,5]", "7:12");
    finds("&@11*", "[5,5]", "0:11");
    finds("&&*", "[5,5]", "7:12");
    due("no list, no faults", found(with("(a(b1)b(b1))", "&*")), "");
  }

  @Says("\"/\": by the first; if that finds none, none")
  @Broken(in = "        case '/':\n          look(", find = "look(decider + 1, part, depth + 1);",
      put = "look(decider + 1 + at(plan.span, decider + 1), part, depth + 1);")
  static void promise09_theFirstOfTwoFindsNone() {
    finds("/#0005#0709", "3", "");
    finds("/*#0709", "3", "");
    finds("/{.a*.b*<ab}*", "()", "");
    waits("/{.a*.b*<ab}*", "()", 1);
    waits("/{.a*.b*<ab}{.a*.b*<ab=ab}", "()", 1);
  }

  @Says("\"/\": else by the second; if that finds none, none")
  @Broken(in = "private void keepFewer(int start, int middle, int before, int between) {",
      find = "size = start + second;", put = "size = middle;")
  static void promise09_theSecondOfTwoFindsNone() {
    finds("/#0005#0709", "8", "");
    finds("/#0005*", "8", "");
    finds("/@04#0005*", "[9,9]", "");
    finds("{a#0000b/#0005#0709c#0000}", "(a1b8c1)", "1:3 3:3");
  }

  @Says("\"/\": else those of the one that finds fewer")
  @Broken(in = "private void keepFewer(int start, int middle, int before, int between) {",
      find = "second < middle - start", put = "second > middle - start")
  @Broken(in = "private void keepFewer(int start, int middle, int before, int between) {",
      find = "close(found, middle, size, middle - start);", put = "")
  static void promise09_ofTwoTheOneThatFindsFewer() {
    finds("/@04#0000#0000", "[1,1]", "0:1");
    finds("/#0000@04#0000", "[1,1]", "0:1");
    finds("/@04#0000@03#0000", "[1,1,1,1]", "6:3 7:3 8:3 9:3");
    finds("/@03#0000@04#0000", "[1,1,1,1]", "6:3 7:3 8:3 9:3");
    finds("{a#0001b/@04#0005#0709c#0001}", "(a9b[6,7]c9)", "1:3 2:1 3:3");
    finds("/@04#0000/@03#0000{}", "[1,1,1,1]", "0:5");
  }

  @Says("\"/\": (of alike the first)")
  @Broken(in = "private void keepFewer(int start, int middle, int before, int between) {",
      find = "second < middle - start", put = "second <= middle - start")
  static void promise09_ofAlikeTheFirst() {
    finds("/#0005#0709", "6", "0:3");
    finds("/#0709#0005", "6", "0:2");
    finds("/@04#0005@04@00*", "[6,7]", "6:3 7:3");
  }

  @Says("\"^\": by the whole CHECK")
  @Broken(in = "private int deciderOf(int check, int part) {", find = "c = 0;", put = "return -1;")
  static void promise09_theWholeCheckAgain() {
    finds("{.a^b#0005}", "(b1a(b9))", "12:3");
    finds("{.a^b#0005}", "(b1a(b2a(b9)))", "112:3");
    finds("{.a^b#0005}", "(b1a3)", "1:5");
    finds("{.a{.a^}b#0001}", "(b1a(a(b9)))", "112:3");
    finds("!@04^", "[[?],?]", "66:4 7:4");
    finds("@04~^", "[[?],?,5]", "8:10");
    finds("@04^", "[[[[]]]]", "");
    finds("@04^", "[[[[1]]]]", "6666:10");
  }

  @Says("\"^\": as deep as VALUES go, with as many CHECKS as there are")
  @Broken(in = "public final class GathersAllFaults {", find = "DEEPEST = 128", put = "DEEPEST = 92")
  static void promise09_theWholeCheckAsDeepAsItGoes() {
    finds("@04" + "&".repeat(22) + "^", "[[[[1]]]]", "6666:10");
    waits("@04" + "&".repeat(22) + "^", "[[[[1]]]]", 88);
    finds("&".repeat(22) + "@04^", "[[[[1]]]]", "6666:10");
    waits("&".repeat(22) + "@04^", "[[[[1]]]]", 110);
    finds("@04" + "!".repeat(11) + "~".repeat(11) + "^", "[[[[1,?]]]]", "6666:10 6667:4");
    finds("@44/^/^^", "[1,[2,2,[3],[]],4,5]", "6:10 76:10 77:10 78:11 786:10 79:11 8:10 9:10");
  }

  @Says("A DEPENDENT one WAITS as well if one of its fields lacks")
  @Broken(in = "private void lookAtDependent(int dependent, int part, int start) {", find = "one < 0 ||", put = "")
  @Broken(in = "private void lookAtDependent(int dependent, int part, int start) {", find = "|| other < 0", put = "")
  @Broken(in = "private void lookAtDependent(int dependent, int part, int start) {", find = "waiting++;", put = "")
  static void promise13_aDependentOneWaitsIfAFieldLacks() {
    waits("{.a*.b*<ab=ab}", "()", 2);
    waits("{.a*.b*<ab=ba}", "(a1)", 2);
    waits("{.a*.b*<ab=ba}", "(b1)", 2);
    waits("{a*b*<ab}", "(a1)", 1);
    finds("{.a*.b*<ab=ba}", "(b1)", "");
    waits("{.a*.b*<aa}", "(b1)", 1);
    waits("{.a*.b*<ab=ab}", "(a1b2)", 0);
  }

  @Says("if that finds some, it WAITS (\"&\")")
  @Broken(in = "private void lookForTwins(int part, int start) {", find = "waiting++;", put = "")
  @Broken(in = "private void lookForTwins(int part, int start) {", find = "size > start", put = "size > 0")
  static void promise13_anAndWaitsIfItsCheckFindsSome() {
    waits("&@04#0005", "[9,9]", 1);
    waits("&@04#0005", "[5,5]", 0);
    waits("&&*", "[5,5]", 1);
    waits("&&@04#0005", "[9,9]", 2);
    waits("{a#0000b&*}", "(a1b[5,5])", 0);
    finds("{a#0000b&*}", "(a1b[5,5])", "1:3 27:12");
  }

  @Says("\"&\" of what is no LIST WAITS as well, if its CHECK finds some")
  @Broken(in = "private void lookForTwins(int part, int start) {", find = "if (size > start) {",
      put = "if (size > start && at(tree.kind, part) == LIST) {")
  static void promise13_anAndOfNoListWaitsToo() {
    waits("&#0005", "9", 1);
    waits("&!*", "?", 1);
    waits("&{a*}", "()", 1);
    waits("&@04*", "5", 1);
    waits("&#0005", "5", 0);
    waits("&*", "?", 0);
  }

  @Says("only what the one taken (the first of two without FAULTS) had WAITING, WAITS")
  @Broken(in = "private void keepFewer(int start, int middle, int before, int between) {",
      find = "waiting = before + waiting - between;", put = "waiting = before;")
  @Broken(in = "private void keepFewer(int start, int middle, int before, int between) {",
      find = "waiting = before + waiting - between;", put = "")
  @Broken(in = "private void keepFewer(int start, int middle, int before, int between) {",
      find = "waiting = between;", put = "")
  static void promise13_onlyWhatTheOneTakenHadWaits() {
    waits("/&#0005#0005", "9", 1);
    waits("/#0005&#0005", "9", 0);
    waits("/&@04#0000#0000", "[1,1]", 0);
    waits("/@04#0000&#0000", "[1,1]", 1);
    waits("/#0005{.a*.b*<ab}", "()", 1);
    waits("/&#0005*", "9", 0);
    waits("/{.a*.b*<ab}*", "()", 1);
    waits("{a&#0000b/&@04#0000&&#0000}", "(a1b[1,1])", 3);
    waits("{a&#0000b/&&#0000@04&&#0000}", "(a1b[1,1])", 3);
  }

  @Says("waits: how many WAIT")
  @Broken(in = "public int waits() {", find = "gatherer.gather(now);", put = "")
  static void promise13_howManyAsItIsNow() {
    GathersAllFaults x = with("(a9b1)", "&{a#0005b*<ab=ab}");
    due("waiting", x.waits(), 3);
    x.puts(1, 0);
    due("waiting then", x.waits(), 1);
    due("found", found(x), "2:9");
    x.puts(2, 0);
    due("waiting then", x.waits(), 2);
    x.mend(0);
    due("waiting behind a trial", x.waits(), 2);
  }
}
