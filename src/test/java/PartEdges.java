/** Promises 5 to 8 and 17 to 19 at their edges: parts, paths, what is put in their place, and which are the same. */
final class PartEdges extends Edges {
  private static final String WHOLE = "(a5b[3,?,3]c(d7))";

  @Says("0 NUMBER 0, NOTHING 1, RECORD 2, LIST 3")
  @Broken(in = "public final class GathersAllFaults {", find = "NOTHING = 1", put = "NOTHING = 4")
  @Broken(in = "public final class GathersAllFaults {", find = "RECORD = 2", put = "RECORD = 5")
  @Broken(in = "public final class GathersAllFaults {", find = "LIST = 3", put = "LIST = 5")
  static void promise05_kinds() {
    GathersAllFaults x = with("(a0b?c()d[])");
    due("number", x.part(1, 0), 0);
    due("nothing", x.part(2, 0), 1);
    due("record", x.part(3, 0), 2);
    due("list", x.part(4, 0), 3);
    due("whole", x.part(0, 0), 2);
  }

  @Says("1 the NUMBER, 0 of NOTHING, how many fields, elements")
  @Broken(in = "public int part(int path, int what) {", find = "at(now.kids, part);", put = "at(now.span, part) - 1;")
  @Broken(in = "public int drops(int path) {", find = "NOTHING, 0)", put = "NUMBER, 0)")
  static void promise05_theNumberOrHowMany() {
    GathersAllFaults x = with("(a0b99c()d[]e[[1,2,?],(a1)])");
    due("number 0", x.part(1, 1), 0);
    due("number 99", x.part(2, 1), 99);
    due("a record of none", x.part(3, 1), 0);
    due("a list of none", x.part(4, 1), 0);
    due("two elements", x.part(5, 1), 2);
    due("three elements", x.part(56, 1), 3);
    due("one field", x.part(57, 1), 1);
    due("nothing", x.part(568, 1), 0);
    due("five fields", x.part(0, 1), 5);
    x.drops(2);
    due("nothing where a number was", x.part(2, 1) + 10 * x.part(2, 0), 10);
    x.drops(5);
    due("nothing where a list was", x.part(5, 1) + 10 * x.part(5, 0), 10);
  }

  @Says("2 SIZE; 3 its number by ORDER")
  @Broken(in = "public int part(int path, int what) {", find = "at(now.span, part)", put = "at(now.kids, part) + 1")
  @Broken(in = "public int part(int path, int what) {", find = "return part;", put = "return part + 1;")
  static void promise05_sizeAndNumberByOrder() {
    GathersAllFaults x = with("(e[[1,2],3]a(b?c()))");
    int[] paths = {0, 5, 56, 566, 567, 57, 1, 12, 13};
    int[] sizes = {9, 5, 3, 1, 1, 1, 3, 1, 1};
    for (int i = 0; i < paths.length; i++) {
      due("size at " + paths[i], x.part(paths[i], 2), sizes[i]);
      due("number at " + paths[i], x.part(paths[i], 3), i);
    }
  }

  @Says("A PATH of a PART goes by NAMES, wherever the field stands")
  @Broken(in = "    void link() {", find = "if (at(kind, p) == LIST) {\n            set(digit, c, 6 + k);",
      put = "if (true) {\n            set(digit, c, at(kind, p) == LIST ? 6 + k : 1 + k);")
  static void promise05_aPathGoesByNames() {
    GathersAllFaults x = with("(c7e8a9)");
    due("at a", x.part(1, 1), 9);
    due("at c", x.part(3, 1), 7);
    due("at e", x.part(5, 1), 8);
    due("at b", x.part(2, 1), -1);
  }

  @Says("part: -1 (no such PATH)")
  @Broken(in = "public int part(int path, int what) {", find = "NOBODY", put = "OTHER")
  @Broken(in = "    int find(int sought) {", find = "return -1;", put = "return 0;")
  static void promise05_noSuchPathIsRefused() {
    GathersAllFaults x = with(WHOLE);
    for (int path : new int[] {4, 5, 6, 9, 10, 11, 16, 25, 29, 30, 31, 33, 260, 261, 340, 341, 99999, 100000, -1, -26,
        Integer.MIN_VALUE, Integer.MAX_VALUE}) {
      refused("part at " + path, x, -1, y -> y.part(path, 0));
    }
    refused("an element of a number", with("5"), -1, y -> y.part(6, 0));
  }

  @Says("part: -2 (what)")
  @Broken(in = "public int part(int path, int what) {", find = "refuse(OTHER)", put = "refuse(STATE)")
  @Broken(in = "public int part(int path, int what) {", find = "default:", put = "case 4: return part; default:")
  static void promise05_anotherWhatIsRefused() {
    GathersAllFaults x = with(WHOLE);
    refused("part 0 -1", x, -2, y -> y.part(0, -1));
    refused("part 0 4", x, -2, y -> y.part(0, 4));
    refused("part 34 2147483647", x, -2, y -> y.part(34, Integer.MAX_VALUE));
    refused("part 34 -2147483648", x, -2, y -> y.part(34, Integer.MIN_VALUE));
  }

  @Says("the first that fits in the order in which it tells them: -1; -2")
  @Broken(in = "public int part(int path, int what) {", find = "part < 0", put = "part < 0 && what >= 0 && what <= 3")
  static void promise05_noSuchPathGoesAheadOfWhat() {
    refused("part 4 9", with(WHOLE), -1, y -> y.part(4, 9));
    refused("part 4 -1", with(WHOLE), -1, y -> y.part(4, -1));
  }

  @Says("The PATH of the i-th PART by ORDER (0 ..); ORDER: fields as they stand, elements by numbers")
  @Broken(in = "public int path(int i) {", find = "at(now.road, i)", put = "at(now.road, i + 1)")
  static void promise06_pathsByOrder() {
    GathersAllFaults x = with("(c(d7)b[3,[],3]a5)");
    int[] paths = {0, 3, 34, 2, 26, 27, 28, 1};
    for (int i = 0; i < paths.length; i++) {
      due("path " + i, x.path(i), paths[i]);
    }
  }

  @Says("path: -1 there is none")
  @Broken(in = "public int path(int i) {", find = "i < 0", put = "i < -1")
  @Broken(in = "public int path(int i) {", find = "i >= now.size", put = "i > now.size")
  static void promise06_noneIsRefused() {
    GathersAllFaults x = with(WHOLE);
    due("the last", x.path(7), 34);
    refused("path 8", x, -1, y -> y.path(8));
    refused("path -1", x, -1, y -> y.path(-1));
    refused("path 2147483647", x, -1, y -> y.path(Integer.MAX_VALUE));
    refused("path -2147483648", x, -1, y -> y.path(Integer.MIN_VALUE));
    refused("path 1 of one", with("?"), -1, y -> y.path(1));
  }

  @Says("A NUMBER is put in place of that PART")
  @Broken(in = "    void fill(int part, int itsKind, int itsNum) {", find = "set(kids, part, 0);", put = "")
  @Broken(in = "    void fill(int part, int itsKind, int itsNum) {", find = "takeOut(part + 1, at(span, part) - 1);",
      put = "")
  static void promise07_aNumberIsPut() {
    GathersAllFaults x = with(WHOLE);
    x.puts(27, 0);
    due("in place of nothing", shown(x), "(a5b[3,0,3]c(d7))");
    x.puts(1, 99);
    due("in place of a number", shown(x), "(a99b[3,0,3]c(d7))");
    x.puts(2, 4);
    due("in place of a list", shown(x), "(a99b4c(d7))");
    due("fields then", x.part(0, 1), 3);
    due("a number's size", x.part(2, 2), 1);
    due("paths then", x.path(2) + " " + x.path(3) + " " + x.path(4) + " " + x.path(5), "2 3 34 -1");
    x.puts(3, 1);
    due("in place of a record", shown(x), "(a99b4c1)");
    x = with("(a[1,2]b3)");
    x.puts(1, 3);
    due("the same then as any such number", x.same(1, 2), 1);
  }

  @Says("SIZE that it had")
  @Broken(in = "public int puts(int path, int n) {", find = "int had = at(now.span, part)",
      put = "int had = at(now.kids, part) + 1")
  static void promise07_theAnswerIsTheSizeItHad() {
    GathersAllFaults x = with("[[1,[2,3]],[4],?,()]");
    due("the innermost", x.puts(67, 8), 3);
    due("around it", x.puts(6, 8), 3);
    due("a list", x.puts(7, 8), 2);
    due("nothing", x.puts(8, 8), 1);
    due("a record of none", x.puts(9, 8), 1);
    due("the whole", x.puts(0, 8), 5);
    due("a number", x.puts(0, 9), 1);
    due("all that is in it", with("[[1,[2,(a3)]],4]").puts(6, 8), 6);
    due("all that is in the whole", with("[[1,[2,(a3)]],4]").puts(0, 8), 8);
  }

  @Says("PATH: 0 of the whole; a NUMBER is put in place of that PART")
  @Broken(in = "public int puts(int path, int n) {", find = "part < 0", put = "part <= 0")
  static void promise07_theWholeIsAPartToo() {
    GathersAllFaults x = with(WHOLE);
    due("size it had", x.puts(0, 3), 8);
    due("then", shown(x), "3");
    due("size", x.count(0), 1);
    due("path 1", x.path(1), -1);
  }

  @Says("a NUMBER (0 .. 99)")
  @Broken(in = "public int puts(int path, int n) {", find = "n < 0", put = "n <= 0")
  @Broken(in = "public int puts(int path, int n) {", find = "n > GREATEST", put = "n >= GREATEST")
  static void promise07_0And99AreNumbers() {
    GathersAllFaults x = with("[1,1]");
    due("least", x.puts(6, 0), 1);
    due("greatest", x.puts(7, 99), 1);
    due("then", shown(x), "[0,99]");
  }

  @Says("puts: -1")
  @Broken(in = "public int puts(int path, int n) {", find = "NOBODY", put = "STATE")
  static void promise07_noSuchPathIsRefused() {
    GathersAllFaults x = with(WHOLE);
    refused("puts 4 1", x, -1, y -> y.puts(4, 1));
    refused("puts 29 1", x, -1, y -> y.puts(29, 1));
    refused("puts -1 1", x, -1, y -> y.puts(-1, 1));
  }

  @Says("puts: -4")
  @Broken(in = "public int puts(int path, int n) {", find = "n < 0", put = "n < -1")
  static void promise07_belowTheLeastIsRefused() {
    GathersAllFaults x = with(WHOLE);
    refused("puts 1 -1", x, -4, y -> y.puts(1, -1));
    refused("puts 0 -2147483648", x, -4, y -> y.puts(0, Integer.MIN_VALUE));
  }

  @Says("puts: -6 99")
  @Broken(in = "public int puts(int path, int n) {", find = "n > GREATEST", put = "n > GREATEST + 1")
  static void promise07_aboveTheGreatestIsRefused() {
    GathersAllFaults x = with(WHOLE);
    refused("puts 1 100", x, -6, y -> y.puts(1, 100));
    refused("puts 0 2147483647", x, -6, y -> y.puts(0, Integer.MAX_VALUE));
  }

  @Says("the first that fits in the order in which it tells them: -1; -4; -6")
  @Broken(in = "public int puts(int path, int n) {", find = "part < 0", put = "part < 0 && n >= 0 && n <= GREATEST")
  static void promise07_noSuchPathGoesAheadOfTheNumber() {
    refused("puts 4 -1", with(WHOLE), -1, y -> y.puts(4, -1));
    refused("puts 4 100", with(WHOLE), -1, y -> y.puts(4, 100));
  }

  @Says("NOTHING is put in place of that PART: SIZE that it had")
  @Broken(in = "public int drops(int path) {", find = "int had = at(now.span, part)",
      put = "int had = at(now.kids, part) + 1")
  @Broken(in = "public int drops(int path) {", find = "part < 0", put = "part <= 0")
  static void promise08_nothingIsPut() {
    GathersAllFaults x = with("(a5b[3,(c1),3]c(d7))");
    due("a number", x.drops(1), 1);
    due("then", shown(x), "(a?b[3,(c1),3]c(d7))");
    due("a list", x.drops(2), 5);
    due("then", shown(x), "(a?b?c(d7))");
    due("nothing", x.drops(2), 1);
    due("then", shown(x), "(a?b?c(d7))");
    due("a record", x.drops(3), 2);
    due("then", shown(x), "(a?b?c?)");
    due("the whole", x.drops(0), 4);
    due("then", shown(x), "?");
    due("the whole, nothing", x.drops(0), 1);
    due("size", x.count(0), 1);
  }

  @Says("drops: -1")
  @Broken(in = "public int drops(int path) {", find = "NOBODY", put = "STATE")
  static void promise08_noSuchPathIsRefused() {
    GathersAllFaults x = with(WHOLE);
    refused("drops 4", x, -1, y -> y.drops(4));
    refused("drops 29", x, -1, y -> y.drops(29));
    refused("drops -1", x, -1, y -> y.drops(-1));
    x.drops(3);
    refused("drops 34, gone with 3", x, -1, y -> y.drops(34));
  }

  @Says("SAME: NUMBERS alike")
  @Broken(in = "private boolean alikeBelow(int a, int b, int depth) {", find = "|| at(num, a) != at(num, b)", put = "")
  static void promise17_numbersAlikeAreTheSame() {
    GathersAllFaults x = with("[5,05,50,0]");
    due("5 and 05", x.same(6, 7), 1);
    due("5 and 50", x.same(6, 8), 0);
    due("5 and 0", x.same(6, 9), 0);
  }

  @Says("SAME: NOTHING both")
  @Broken(in = "private boolean alikeBelow(int a, int b, int depth) {", find = "|| at(kind, a) != at(kind, b)", put = "")
  static void promise17_nothingIsTheSameAsNothingAlone() {
    GathersAllFaults x = with("(a?b?c0d()e[])");
    due("both", x.same(1, 2), 1);
    due("and 0", x.same(1, 3), 0);
    due("and a record of none", x.same(1, 4), 0);
    due("and a list of none", x.same(5, 1), 0);
    due("a record and a list of none", x.same(4, 5), 0);
    x = with("[5,?]");
    x.drops(6);
    due("what has become nothing", x.same(6, 7), 1);
  }

  @Says("SAME: RECORDS with the same NAMES (in any order), each with the SAME VALUE")
  @Broken(in = "private boolean alikeBelow(int a, int b, int depth) {", find = "int twin = child(b, at(digit, c));",
      put = "int twin = b + (c - a);")
  @Broken(in = "private boolean alikeBelow(int a, int b, int depth) {",
      find = "twin < 0 || !alikeBelow(c, twin, depth + 1)", put = "twin < 0")
  @Broken(in = "private boolean alikeBelow(int a, int b, int depth) {",
      find = "twin < 0 || !alikeBelow(c, twin, depth + 1)", put = "twin >= 0 && !alikeBelow(c, twin, depth + 1)")
  static void promise17_recordsByNamesInAnyOrder() {
    GathersAllFaults x = with("[(a1b(c2d3)),(b(d3c2)a1),(a1b(c3d2)),(a1)]");
    due("in any order", x.same(6, 7), 1);
    due("the other way", x.same(7, 6), 1);
    due("other values deep in it", x.same(6, 8), 0);
    due("a name less", x.same(6, 9), 0);
    due("a name more", x.same(9, 6), 0);
    x = with("[(a1b2),(a1c2),(a2b1),()]");
    due("another name", x.same(6, 7), 0);
    due("another value", x.same(6, 8), 0);
    due("none", x.same(9, 9), 1);
  }

  @Says("SAME: LISTS with as many elements, each the SAME as the one at its place")
  @Broken(in = "private boolean alikeBelow(int a, int b, int depth) {",
      find = "|| at(kids, a) != at(kids, b) || at(span, a) != at(span, b)", put = "")
  static void promise17_listsByPlaces() {
    GathersAllFaults x = with("(a[1,2]b[1,2]c[2,1]d[1,2,3]e[1])");
    due("alike", x.same(1, 2), 1);
    due("other places", x.same(1, 3), 0);
    due("one more", x.same(1, 4), 0);
    due("one less", x.same(1, 5), 0);
    due("none and one", with("[[],[1]]").same(6, 7), 0);
    due("as many parts, other lists", with("[[[],[1]],[[1],[]]]").same(6, 7), 0);
  }

  @Says("SAME of two PATHS (a PART and itself, at any depth)")
  @Broken(in = "private boolean alikeBelow(int a, int b, int depth) {", find = "depth > DIGITS", put = "depth >= DIGITS")
  static void promise17_fourDigitsDeep() {
    due("lists", with("[[[[1]]]]").same(0, 0), 1);
    due("records", with("(a(b(c(d()))))").same(0, 0), 1);
    due("two of three digits", with("[[[[1]]],[[[1]]]]").same(6, 7), 1);
    due("not so at the deepest", with("[[[[1]]],[[[2]]]]").same(6, 7), 0);
  }

  @Says("same: -1 either")
  @Broken(in = "public int same(int a, int b) {", find = "one < 0 ||", put = "")
  @Broken(in = "public int same(int a, int b) {", find = "|| other < 0", put = "")
  static void promise17_eitherPathIsRefused() {
    GathersAllFaults x = with("[?,1]");
    refused("same 0 8", x, -1, y -> y.same(0, 8));
    refused("same 8 0", x, -1, y -> y.same(8, 0));
    refused("same 8 8", x, -1, y -> y.same(8, 8));
    refused("same -1 -1", x, -1, y -> y.same(-1, -1));
  }

  @Says("DIFFERENT: how many PARTS there are, those that are the SAME counted once")
  @Broken(in = "public int different() {", find = "firstAlike(p) == p", put = "countAlike(p) == 1")
  @Broken(in = "public int different() {", find = "firstAlike(p) == p", put = "true")
  static void promise18_theSameAreCountedOnce() {
    due("one part", with("?").different(), 1);
    due("all others alike", with("[1,1,1,1]").different(), 2);
    due("all different", with("[1,?,[],()]").different(), 5);
    due("in any order", with("[(a1b2),(b2a1)]").different(), 4);
    due("other places", with("[[1,2],[2,1]]").different(), 5);
    due("a whole of 20", with("[[1,1,1,1],[1,1,1,1],[1,1,1,1],[1,1,1]]").different(), 4);
  }

  @Says("MOST OFTEN: the PART (its PATH, the first by ORDER) that most PARTS are the SAME as; how many")
  @Broken(in = "public int often(int what) {", find = "int many = countAlike(p);",
      put = "int many = countAlike(p) - (p == 0 ? 0 : 1);")
  @Broken(in = "public int often(int what) {", find = "many > most", put = "many > most || many == most && many > 1")
  static void promise19_theFirstByOrderOfThoseThatAreTheSame() {
    GathersAllFaults x = with("(e[2,?]b(d[2,?]a2c[2,?]))");
    due("path", x.often(0), 56);
    due("how many", x.often(1), 4);
    x = with("(d4b[1,2]c[1,2]a4)");
    due("path, by order and not by paths", x.often(0), 4);
    due("how many", x.often(1), 2);
  }

  @Says("MOST OFTEN (of several the first by ORDER)")
  @Broken(in = "public int often(int what) {", find = "many > most", put = "many >= most")
  static void promise19_ofSeveralTheFirst() {
    due("of two by two", with("[2,1,1,2]").often(0), 6);
    due("all different", with("(b3a4)").often(0), 0);
    due("all different", with("(b3a4)").often(1), 1);
    due("another by more", with("(a1b[1,[],[],[]])").often(0), 27);
  }

  @Says("MOST OFTEN counts the PART itself")
  @Broken(in = "public int often(int what) {", find = ": most;", put = ": most - 1;")
  static void promise19_thePartItselfCounts() {
    due("one part", with("5").often(1), 1);
    due("one part", with("5").often(0), 0);
    due("two the same", with("[5,5]").often(1), 2);
  }

  @Says("often: -2")
  @Broken(in = "public int often(int what) {", find = "what != 0 && what != 1", put = "what < 0 || what > 2")
  @Broken(in = "public int often(int what) {", find = "what != 0 && what != 1", put = "what > 1")
  static void promise19_anotherWhatIsRefused() {
    GathersAllFaults x = with(WHOLE);
    refused("often 2", x, -2, y -> y.often(2));
    refused("often -1", x, -2, y -> y.often(-1));
    refused("often -2147483648", x, -2, y -> y.often(Integer.MIN_VALUE));
  }
}
