/** Each promise of the document by hand: what is usual, the edges, and what is refused, in its order. */
public final class PromisesTest {
  private static int wrong = 0;
  private static int asked = 0;
  private static final String WHOLE = "(a5b[3,?,3]c(d7))";

  private static void due(String call, Object got, Object want) {
    asked++;
    if (!got.equals(want)) {
      wrong++;
      System.out.println(call + " answered " + got + ", due is " + want);
    }
  }

  private static void tell(GathersAllFaults x, String text) {
    for (char c : text.toCharArray()) {
      x.letter(c);
    }
  }

  private static int value(GathersAllFaults x, String text) {
    tell(x, text);
    return x.value();
  }

  private static int check(GathersAllFaults x, String text) {
    tell(x, text);
    return x.check();
  }

  private static GathersAllFaults with(String value, String check) {
    GathersAllFaults x = new GathersAllFaults();
    int size = value(x, value);
    int checks = check(x, check);
    if (size < 1 || checks < 1) {
      due("value " + value + " and check " + check, size + " and " + checks, "sizes");
    }
    return x;
  }

  /** Path and code of each fault, and how many wait. */
  private static String found(GathersAllFaults x) {
    StringBuilder b = new StringBuilder();
    int many = x.faults();
    for (int i = 0; i < many; i++) {
      b.append(x.fault(i, 0)).append(':').append(x.fault(i, 1)).append(' ');
    }
    return b.append('|').append(x.waits()).toString();
  }

  private static void finds(String check, String value, String want) {
    due("faults of " + value + " by " + check, found(with(value, check)), want);
  }

  /** What the value is, as letters. */
  private static String shown(GathersAllFaults x, int path) {
    switch (x.part(path, 0)) {
      case 0:
        return "" + x.part(path, 1);
      case 1:
        return "?";
      default:
        StringBuilder b = new StringBuilder();
        boolean record = x.part(path, 0) == 2;
        for (int i = 0; i < x.count(0); i++) {
          int p = x.path(i);
          if (p > 0 && p / 10 == path) {
            b.append(record ? "" + (char) ('a' + p % 10 - 1) : b.length() > 0 ? "," : "").append(shown(x, p));
          }
        }
        return record ? "(" + b + ")" : "[" + b + "]";
    }
  }

  private static void promise1() {
    GathersAllFaults x = new GathersAllFaults();
    due("new value", shown(x, 0), "0");
    due("new checks", x.count(1), 1);
    due("new faults", x.faults(), 0);
    due("new waiting", x.waits(), 0);
    due("new size", x.count(0), 1);
    due("new row", x.count(6), 0);
    due("new letters", x.count(7), 0);
    for (int k = 11; k <= 16; k++) {
      due("new refusals " + k, x.count(k), 0);
    }
    due("new image", x.on(), -3);
    x.drops(0);
    due("a new check finds none in nothing", x.faults(), 0);
  }

  private static void promise2() {
    GathersAllFaults x = new GathersAllFaults();
    due("letter -1", x.letter(-1), -4);
    due("letter 256", x.letter(256), -6);
    due("letters after refusals", x.count(7), 0);
    due("letter 0", x.letter(0), 1);
    due("letter 255", x.letter(255), 2);
    for (int k = 3; k <= 96; k++) {
      due("letter " + k, x.letter('['), k);
    }
    due("letter 97", x.letter('['), -6);
    due("letter -1 of 97", x.letter(-1), -4);
    due("letter 300 of 97", x.letter(300), -6);
    due("refused -4", x.count(14), 2);
    due("refused -6", x.count(16), 3);
    due("letters", x.count(7), 96);
  }

  private static void promise3() {
    GathersAllFaults x = new GathersAllFaults();
    String[] stuck = {"", "(", "(a", "(a)", "(1", "[1,]", "[,1]", "[1", "[", "123", "1?", "(a1f2)", "[1)", "(a1]", "5a",
        "(a1a2", "(a1,b2)", "?1", "()1", "x", "[1,2", "(a12", "(a123)", "[12", "[1 ]", " 1", "-1", "A", "*"};
    int[] places = {0, 1, 2, 2, 1, 3, 1, 2, 1, 2, 1, 3, 2, 3, 1, 5, 3, 1, 2, 0, 4, 4, 4, 3, 2, 0, 0, 0, 0};
    value(x, "7");
    for (int k = 0; k < stuck.length; k++) {
      due("value " + stuck[k], value(x, stuck[k]), -1000 - places[k]);
      due("letters behind " + stuck[k], x.count(7), 0);
      due("value stays behind " + stuck[k], shown(x, 0), "7");
    }
    String[] bad = {"(a1a2)", "[1,2,3,4,5]", "(a(a(a(a(a1)))))", "(a?b?a?)", "[[[[[1]]]]]", "(a(b1b2)a3)",
        "[[1,1,1,1],[1,1,1,1],[1,1,1,1],[1,1,1,1]]", "[1,2,3,4,(a1a2)]", "(b[1,2,3,4,5]b1)", "(a12a3)"};
    int[] wrongs = {3, 9, 10, 5, 5, 5, 38, 9, 11, 4};
    for (int k = 0; k < bad.length; k++) {
      due("value " + bad[k], value(x, bad[k]), -2000 - wrongs[k]);
      due("value stays behind " + bad[k], shown(x, 0), "7");
    }
    due("nothing is counted", x.count(11) + x.count(12) + x.count(13) + x.count(14) + x.count(16), 0);
    String[] good = {"0", "99", "?", "()", "[]", "[[[[[]]]]]", "(a(b(c(d?))))", "(e1d2c3b4a5)", "[1,2,3,4]", WHOLE,
        "[(a1b1c1d1e1),(a1b1c1d1e1),(a1b1c1d1e1),?]"};
    int[] sizes = {1, 1, 1, 1, 1, 5, 5, 6, 5, 8, 20};
    for (int k = 0; k < good.length; k++) {
      due("value " + good[k], value(x, good[k]), sizes[k]);
      due("shown", shown(x, 0), good[k]);
      due("letters", x.count(7), 0);
    }
    due("a number told with a 0 ahead", value(x, "05") + x.part(0, 1), 6);
    value(x, "5");
    due("a digit behind a digit", value(x, "6") + x.part(0, 1), 7);
    StringBuilder b = new StringBuilder();
    for (int k = 0; k < 96; k++) {
      b.append(k < 95 ? '[' : '(');
    }
    due("96 open ones", value(x, b.toString()), -1096);
  }

  private static void promise4() {
    GathersAllFaults x = new GathersAllFaults();
    String[] stuck = {"", "#0510#", "#051", "#0", "#x", "{", "{a", "{a}", "{a*<ab", "{<", "{a*<aab*}", "f", "**", "!",
        "/*", "@", "@1", "@12", "@12}", "{.", "{..a*}", "{a*<a}", "{a*,b*}", "{f*}", "&", "~", "{a*", "{a*=aa.b*}", "}",
        "#0900x", "{a*a*", "1", "^^"};
    int[] places = {0, 5, 4, 2, 1, 1, 2, 2, 6, 2, 6, 0, 1, 1, 2, 1, 2, 3, 3, 2, 2, 5, 3, 1, 1, 1, 3, 6, 0, 5, 5, 0, 1};
    check(x, "#0001");
    x.drops(0);
    for (int k = 0; k < stuck.length; k++) {
      due("check " + stuck[k], check(x, stuck[k]), -1000 - places[k]);
      due("letters behind " + stuck[k], x.count(7), 0);
      due("check stays behind " + stuck[k], x.first(), 1);
    }
    String bangs = "!!!!!!!!!!!!!!!!!!!!!!!!";
    String[] bad = {"#0900", "!#0900", "@31*", "{a*a*}", "{a*.a*}", "{.a*.a*}", "{a*<ab}", "{a*b*=cb}", "{a*b*=bc}",
        "^", "!^", "/^@04*", "/@04*^", "@04/^/^/^^", "{a{b^c^}d^e^}", bangs + "*", "{a#0900<bb}", "{a*a#0900}",
        "{a{b*}c*<ab}", "{a*b{c*<ac}}", "@31#0900", "{.a^.a^}", "&~/^*"};
    int[] wrongs = {0, 1, 0, 3, 3, 4, 3, 5, 5, 0, 1, 1, 5, 9, 11, 24, 2, 3, 8, 7, 0, 4, 3};
    for (int k = 0; k < bad.length; k++) {
      due("check " + bad[k], check(x, bad[k]), -2000 - wrongs[k]);
      due("check stays behind " + bad[k], x.first(), 1);
    }
    due("nothing is counted", x.count(11) + x.count(12) + x.count(13) + x.count(14) + x.count(16), 0);
    String[] good = {"*", "#0000", "@55*", "{}", "{a*b*<ab=ba<aa}", "@04^", "{a^}", "{.a^b!^c~^}", "/#0001&*",
        bangs.substring(1) + "*", "@09/^/^^", "{a*b*c*d*e*<ab=cd}", "/*/*/*/*/*/*/*/*/*/*/**"};
    int[] sizes = {1, 1, 2, 1, 3, 2, 2, 6, 4, 24, 6, 6, 23};
    for (int k = 0; k < good.length; k++) {
      due("check " + good[k], check(x, good[k]), sizes[k]);
      due("checks", x.count(1), sizes[k]);
    }
    value(x, "(b1a1)");
    for (int k = 0; k < 30; k++) {
      due("check told again", check(x, "{a*b*<ab=ba}"), 3);
      due("faults told again", found(x), "2:8 |1");
      due("check in its place", check(x, "{a*b*}"), 3);
      due("faults by that", found(x), "|0");
    }
    StringBuilder b = new StringBuilder();
    for (int k = 0; k < 48; k++) {
      b.append("{a");
    }
    due("48 open ones", check(x, b.toString()), -1096);
  }

  private static void numbersAndNothing() {
    finds("*", WHOLE, "|0");
    finds("#0510", "4", "0:2 |0");
    finds("#0510", "5", "|0");
    finds("#0510", "10", "|0");
    finds("#0510", "11", "0:3 |0");
    finds("#0510", "?", "0:1 |0");
    finds("#0510", "[]", "0:1 |0");
    finds("#0510", "(a7)", "0:1 |0");
    finds("!#0510", "?", "0:4 |0");
    finds("!#0510", "4", "0:2 |0");
    finds("~#0510", "?", "|0");
    finds("~#0510", "4", "0:2 |0");
    finds("!~#0510", "?", "0:4 |0");
    finds("~!#0510", "?", "|0");
  }

  private static void records() {
    finds("{a*}", "5", "0:5 |0");
    finds("{a*}", "[5]", "0:5 |0");
    finds("{a*}", "?", "0:5 |0");
    finds("{a*}", "()", "1:6 |0");
    finds("{a*}", "(a1)", "|0");
    finds("{a*}", "(a?)", "|0");
    finds("{a*}", "(b1)", "1:6 2:7 |0");
    finds("{a*}", "(c2a1b1)", "3:7 2:7 |0");
    finds("{.a#0105}", "()", "|0");
    finds("{.a#0105}", "(a9)", "1:3 |0");
    finds("{b#0001a#0001}", "(a9b9)", "2:3 1:3 |0");
    finds("{}", "(a1)", "1:7 |0");
    finds("{a{a{a{a{a*}}}}}", "(a(a(a(a()))))", "11111:6 |0");
    finds("{a{b*}c{}}", "(c()a(b1e(a1)))", "15:7 |0");
  }

  private static void dependents() {
    finds("{a*b*<ab}", "(a1b2)", "|0");
    finds("{a*b*<ab}", "(a2b2)", "2:8 |0");
    finds("{a{a*b*<ab}b*c*=bc<cb}", "(a(a2b1)b1c2)", "12:8 3:9 |1");
    finds("{a*b*=ab=ab=ab=ab=ab=ab=ab=ab=ab=ab=ab=ab=ab=ab=ab=ab=ab=ab=ab=ab=ab=ab=ab=ab=ab=ab=ab=ab=ab<ab}",
        "(a1b1)", "2:8 |0");
    finds("{a*b*<ab}", "(b1a1)", "2:8 |0");
    finds("{a*b*<ba}", "(a1b2)", "1:8 |0");
    finds("{a*b*<ab}", "(a(c1)b[1,2])", "|0");
    finds("{a*b*<ab}", "(a[1]b?)", "2:8 |0");
    finds("{a*b*<ab}", "(a5b?)", "2:8 |0");
    finds("{a*b*<ab}", "(a50b[1])", "|0");
    finds("{a*<aa}", "(a5)", "1:8 |0");
    finds("{a*=aa}", "(a5)", "|0");
    finds("{a*b*=ab}", "(a1b1)", "|0");
    finds("{a*b*=ab}", "(a1b2)", "2:9 |0");
    finds("{a*b*=ab}", "(a?b?)", "|0");
    finds("{a*b*=ab}", "(a?b0)", "2:9 |0");
    finds("{a*b*=ab}", "(a()b[])", "2:9 |0");
    finds("{a*b*=ab}", "(a(a1b[2])b(b[2]a1))", "|0");
    finds("{a*b*=ab}", "(a(a1b2)b(b1a2))", "2:9 |0");
    finds("{a*b*=ab}", "(a[1,2]b[2,1])", "2:9 |0");
    finds("{a*b*=ab}", "(a[1,2]b[1,2,3])", "2:9 |0");
    finds("{a#0005b*<ab}", "(a9b1)", "1:3 |1");
    finds("{a*b#0005<ab}", "(a9b9)", "2:3 |1");
    finds("{a*b*<ab}", "(a1)", "2:6 |1");
    finds("{.a*.b*<ab=ab}", "()", "|2");
    finds("{.a*.b*<ab}", "5", "0:5 |0");
    finds("{a*b*c*<ab<bc=ac}", "(a2b1c0)", "2:8 3:9 |1");
    finds("{a{b#0005}c*=ac}", "(a(b9)c1)", "12:3 |1");
    finds("{a*b*=ab}", "(a1b1c1)", "3:7 |0");
    finds("@04{a*b*<ab}", "[(a2b1),(a1b2),(a2b1)]", "62:8 82:8 |0");
    finds("{c#0001a*b*<ab}", "(a2b1c5)", "3:3 2:8 |0");
    finds("{a/#0001{}b*=ab}", "(a()b1)", "2:9 |0");
  }

  private static void lists() {
    finds("@12#0005", "5", "0:10 |0");
    finds("@12#0005", "(a1)", "0:10 |0");
    finds("@12#0005", "?", "0:10 |0");
    finds("@12#0005", "[]", "0:11 |0");
    finds("@12#0005", "[1]", "|0");
    finds("@12#0005", "[1,2]", "|0");
    finds("@12#0005", "[1,2,3]", "0:11 |0");
    finds("@12#0005", "[1,9,9]", "0:11 7:3 8:3 |0");
    finds("@04@00*", "[1,[],[1]]", "6:10 8:11 |0");
    finds("&*", "[1,2,1,1]", "8:12 9:12 |0");
    finds("&*", "5", "|0");
    finds("&*", "(a1b1)", "|0");
    finds("&*", "[(a1b2),(b2a1),(a1)]", "7:12 |0");
    finds("&*", "[[],(),?,0]", "|0");
    finds("&@04#0005", "[9,9]", "6:3 7:3 |1");
    finds("&#0005", "9", "0:3 |1");
    finds("&&*", "[1,1]", "7:12 |1");
    finds("&@04&@04*", "[[1,1],[2,2]]", "67:12 77:12 |1");
  }

  private static void either() {
    finds("/#0005#0709", "3", "|0");
    finds("/#0005#0709", "8", "|0");
    finds("/#0005#0709", "6", "0:3 |0");
    finds("/#0709#0005", "6", "0:2 |0");
    finds("/@04#0005#0709", "[6,7]", "0:1 |0");
    finds("/#0709@04#0005", "[6,7]", "0:1 |0");
    finds("/&#0005#0005", "9", "0:3 |1");
    finds("/#0005&#0005", "9", "0:3 |0");
    finds("/&@04#0005#0003", "[9,9]", "0:1 |0");
    finds("/@04#0005&#0003", "[9,9]", "0:1 |1");
    finds("/#0005{.a*.b*<ab}", "()", "|1");
    finds("/{.a*.b*<ab}*", "()", "|1");
    finds("/&#0005*", "9", "|0");
    finds("{a#0001b/@04#0005#0709c#0001}", "(a9b[6,7]c9)", "1:3 2:1 3:3 |0");
    finds("{a#0001b/@04#0005/@04#0004@04@04*c#0001}", "(a9b[6,7]c9)", "1:3 26:3 27:3 3:3 |0");
    finds("{.a*.b*c/&#0001@01*<ab}", "(c[3,3])", "3:1 |2");
  }

  private static void byTheWhole() {
    finds("{.a^b#0005}", "(b1a(b2a(b9)))", "112:3 |0");
    finds("{.a^b#0005}", "(b1a3)", "1:5 |0");
    finds("@04/^#0009", "[1,[2,33],[4]]", "77:10 |0");
    finds("@04&&&&&&&&&&&&&&&&&&&&&&^", "[[[[1]]]]", "6666:10 |88");
    finds("@04!~!~!~!~!~!~!~!~!~!~!~^", "[[[[1,?]]]]", "6666:10 6667:4 |0");
    finds("@44/^/^^", "[1,[2,2,[3],[]],4,5]", "6:10 76:10 77:10 78:11 786:10 79:11 8:10 9:10 |0");
  }

  private static void promise5() {
    GathersAllFaults x = with(WHOLE, "*");
    int[][] want = {{0, 2, 3, 8, 0}, {1, 0, 5, 1, 1}, {2, 3, 3, 4, 2}, {26, 0, 3, 1, 3}, {27, 1, 0, 1, 4},
        {28, 0, 3, 1, 5}, {3, 2, 1, 2, 6}, {34, 0, 7, 1, 7}};
    for (int[] row : want) {
      for (int what = 0; what < 4; what++) {
        due("part " + row[0] + " " + what, x.part(row[0], what), row[what + 1]);
      }
    }
    due("part 4", x.part(4, 0), -1);
    due("part -1", x.part(-1, 0), -1);
    due("part 29", x.part(29, 9), -1);
    due("part 0 4", x.part(0, 4), -2);
    due("part 0 -1", x.part(0, -1), -2);
    due("refused -1", x.count(11), 3);
    due("refused -2", x.count(12), 2);
  }

  private static void promise6() {
    GathersAllFaults x = with("(c(d7)b[3,?,3]a5)", "*");
    int[] want = {0, 3, 34, 2, 26, 27, 28, 1};
    for (int i = 0; i < want.length; i++) {
      due("path " + i, x.path(i), want[i]);
    }
    due("path 8", x.path(8), -1);
    due("path -1", x.path(-1), -1);
    due("refused -1", x.count(11), 2);
  }

  private static void promise7and8() {
    GathersAllFaults x = with(WHOLE, "*");
    due("puts 9 at 4", x.puts(4, 9), -1);
    due("puts 100 at 4", x.puts(4, 100), -1);
    due("puts -1", x.puts(2, -1), -4);
    due("puts 100", x.puts(2, 100), -6);
    due("as it was", shown(x, 0), WHOLE);
    due("puts at 2", x.puts(2, 99), 4);
    due("then", shown(x, 0), "(a5b99c(d7))");
    due("paths then", x.path(2) + " " + x.path(3) + " " + x.path(4) + " " + x.path(5), "2 3 34 -1");
    due("drops at 34", x.drops(34), 1);
    due("then", shown(x, 0), "(a5b99c(d?))");
    due("drops at 3", x.drops(3), 2);
    due("drops at 34", x.drops(34), -1);
    due("then", shown(x, 0), "(a5b99c?)");
    due("puts at 0", x.puts(0, 0), 4);
    due("then", shown(x, 0), "0");
    due("drops at 0", x.drops(0), 1);
    due("then", shown(x, 0), "?");
    due("size", x.count(0), 1);
    due("refused", x.count(11) + " " + x.count(14) + " " + x.count(16), "4 1 1");
    x = with("(a[1,2]b3)", "*");
    x.puts(1, 3);
    due("the same then", x.same(1, 2), 1);
    x.drops(1);
    value(x, "(a7b?)");
    x.drops(1);
    due("the same then", x.same(1, 2), 1);
    x = with("[(a1b2),[3]]", "*");
    x.puts(6, 0);
    due("how many behind it", x.part(7, 1), 1);
    x = with("[[1,[2,3]],[4]]", "*");
    due("puts at 67", x.puts(67, 8), 3);
    due("then", shown(x, 0) + x.part(0, 2) + x.part(6, 2), "[[1,8],[4]]63");
  }

  private static void promise9to11() {
    GathersAllFaults x = with("[9,9,[],?]", "@03#0005");
    due("faults", x.faults(), 5);
    due("all", found(x), "0:11 6:3 7:3 8:1 9:1 |0");
    due("fault 5", x.fault(5, 0), -1);
    due("fault -1", x.fault(-1, 1), -1);
    due("fault 0 2", x.fault(0, 2), -2);
    due("fault 9 -1", x.fault(9, -1), -2);
    int[] many = {2, 0, 2, 0, 0, 0, 0, 0, 0, 0, 1, 0};
    for (int code = 1; code <= 12; code++) {
      due("coded " + code, x.coded(code), many[code - 1]);
    }
    due("coded 0", x.coded(0), -2);
    due("coded 13", x.coded(13), -2);
    due("refused", x.count(11) + " " + x.count(12), "2 4");
  }

  private static void promise12and13() {
    GathersAllFaults x = with("(a(a(a(a()b?))))", "{a{a{a{a{a*}b#0001}}}b*}");
    due("all", found(x), "11111:6 1112:1 2:6 |0");
    int[] paths = {0, 1, 11, 111, 1111, 11111, 11112, 1112, 2, 22, 3, 99999};
    int[] many = {3, 2, 2, 2, 1, 1, 0, 1, 1, 0, 0, 0};
    for (int k = 0; k < paths.length; k++) {
      due("below " + paths[k], x.below(paths[k]), many[k]);
    }
    due("below -1", x.below(-1), -4);
    due("below 100000", x.below(100000), -6);
    due("refused", x.count(14) + " " + x.count(16), "1 1");
    due("coded at once", with("9", "#0001").coded(3), 1);
    due("below at once", with("9", "#0001").below(0), 1);
    due("waiting at once", with("9", "&#0001").count(5), 1);
    due("waits", with("(a9b1)", "&{a#0005b*<ab=ab}").waits(), 3);
    due("waits by none", with("(a9b1)", "*").waits(), 0);
  }

  private static void promise14and15() {
    GathersAllFaults x = with("[9,9,[],?]", "@03#0005");
    due("first", x.first(), 11);
    due("first of the fifth", with("(a(a(a(a()))))", "{a{a{a{a{a*}}}}}").first(), 1111106);
    due("first of none", with("5", "#0005").first(), -9);
    int[] k = {0, 1, 3, 4, 5, 6, 99};
    int[] many = {0, 1, 3, 4, 5, 5, 5};
    int[] last = {-9, 11, 703, 801, 901, 901, 901};
    for (int i = 0; i < k.length; i++) {
      due("limited " + k[i] + " 0", x.limited(k[i], 0), many[i]);
      due("limited " + k[i] + " 1", x.limited(k[i], 1), last[i]);
    }
    due("limited -1 2", x.limited(-1, 2), -4);
    due("limited 100 2", x.limited(100, 2), -6);
    due("limited 1 2", x.limited(1, 2), -2);
    due("limited 1 -1", x.limited(1, -1), -2);
    due("refused", x.count(12) + " " + x.count(14) + " " + x.count(16), "2 1 1");
    due("limited of none", with("5", "*").limited(4, 1), -9);
  }

  private static void promise16to19() {
    due("total", with(WHOLE, "*").total(), 18);
    due("total of one", with("5", "*").total(), 5);
    due("the same, four digits deep", with("[[[[1]]]]", "*").same(0, 0), 1);
    due("total of no numbers", with("[?,()]", "*").total(), 0);
    due("total with a fault", with(WHOLE, "{.a*.b*}").total(), -9);
    GathersAllFaults x = with("[(a1b[2,?]),(b[2,?]a1),2,(a1b[?,2])]", "*");
    int[][] same = {{6, 7, 1}, {7, 6, 1}, {6, 9, 0}, {61, 91, 1}, {626, 8, 1}, {627, 8, 0}, {0, 0, 1}, {62, 92, 0}};
    for (int[] row : same) {
      due("same " + row[0] + " " + row[1], x.same(row[0], row[1]), row[2]);
    }
    due("same 0 5", x.same(0, 5), -1);
    due("same 5 0", x.same(5, 0), -1);
    due("refused -1", x.count(11), 2);
    due("different", x.different(), 8);
    due("often 0", x.often(0), 626);
    due("often 1", x.often(1), 4);
    due("often 2", x.often(2), -2);
    due("often -1", x.often(-1), -2);
    due("refused -2", x.count(12), 2);
    due("often, all different", with("(b3a4)", "*").often(0), 0);
    due("often, all different", with("(b3a4)", "*").often(1), 1);
    due("often, of two the first", with("[2,1,1,2]", "*").often(0), 6);
    due("different of one", with("?", "*").different(), 1);
    due("one more by names", with("[(a1),(b1)]", "*").different(), 4);
  }

  private static void promise20() {
    GathersAllFaults x = with("[9,1,9,8]", "&@33#0005");
    due("as it is", found(x), "0:11 6:3 8:3 9:3 |1");
    due("without 6", x.without(6), 2);
    due("without 7", x.without(7), 3);
    due("without 0", x.without(0), -3);
    due("without 5", x.without(5), -1);
    due("as it was", found(x), "0:11 6:3 8:3 9:3 |1");
    due("refused", x.count(11) + " " + x.count(13), "1 1");
    x = with("(a1b[(c1d2)]e2)", "{a*b@01{c*.d*}.e*<ae}");
    due("without a", x.without(1), 1);
    due("without c", x.without(263), 1);
    due("without d", x.without(264), 0);
    due("without e", x.without(5), 0);
    due("twins that move up", with("[1,2,[3],[3]]", "&*").without(6), 1);
    due("without the one of twins", with("[1,2,[3],[3]]", "&*").without(8), 0);
    due("what moves up", with("[1,[2,(a9)]]", "@04/^{a#0001}").without(76), 2);
  }

  private static void promise21() {
    GathersAllFaults x = with("[9,9,?]", "&@33#0105");
    due("as it is", x.faults(), 3);
    due("mend 0", x.mend(0), 0);
    due("mend 1", x.mend(1), 1);
    x = with("(a1b9)", "{a*b#0308}");
    due("mend 0", x.mend(0), 203);
    due("mend 1", x.mend(1), 0);
    due("no better one", with("(a1)", "{a*}").mend(0), -9);
    due("no better one", with("5", "{a*}").mend(1), -9);
    due("beyond 20", with("5", "#2199").mend(0), -9);
    due("just 20", with("5", "#2099").mend(0), 20);
    due("place of a list", with("(a1b[1])", "{a*b#0007}").mend(0), 200);
    due("of several the first", with("(b9a9)", "{.a#0005.b#0005}").mend(0), 0);
    due("of several the first", with("(b9a9)", "{.a#0005.b#0005c*}").mend(0), 0);
    due("of several the first by order", with("(b9a9)", "{a*b*<ab}").mend(0), 210);
    due("mend 2", x.mend(2), -2);
    due("mend -1", x.mend(-1), -2);
    due("refused", x.count(12), 2);
    due("as it was", shown(x, 0), "(a1b9)");
  }

  private static void promise22() {
    GathersAllFaults x = with("(a50b9c1)", "{a#2080b#0308c#0005<bc}");
    due("least a", x.range(1, 0), 20);
    due("greatest a", x.range(1, 1), 80);
    due("least b", x.range(2, 0), 3);
    due("greatest b", x.range(2, 1), 8);
    due("least c", x.range(3, 0), 0);
    due("greatest c", x.range(3, 1), 5);
    due("whole", x.range(0, 0), -9);
    due("whole", x.range(0, 1), -9);
    due("range 4 9", x.range(4, 9), -1);
    due("range 1 2", x.range(1, 2), -2);
    due("range 1 -1", x.range(1, -1), -2);
    due("refused", x.count(11) + " " + x.count(12), "1 2");
    due("just 99", with("(a5b9)", "{a#9999b*}").range(1, 0), 99);
    due("just 0", with("(a5b9)", "{a#0000b*}").range(1, 1), 0);
    x = with("(a5b9)", "{a*b*<ab}");
    due("dependent, other", x.range(2, 0), 6);
    due("dependent, other", x.range(2, 1), 99);
    due("dependent, one", x.range(1, 0), 0);
    due("dependent, one", x.range(1, 1), 99);
    due("twin", with("[0,99,?]", "&*").range(8, 0), 1);
    due("twin", with("[0,99,?]", "&*").range(8, 1), 98);
    due("as it was", shown(x, 0), "(a5b9)");
  }

  private static void promise23() {
    GathersAllFaults x = with("(a1b2c3)", "{a!*b!*c*}");
    due("loss above", x.loss(3, 0), 4L);
    due("loss below", x.loss(3, 1), 9L);
    due("loss by 2", x.loss(2, 0) + "/" + x.loss(2, 1), "1/4");
    due("loss by 20", x.loss(20, 0) + "/" + x.loss(20, 1), "361/400");
    due("loss 1 2", x.loss(1, 2), 4000000000000000004L);
    due("loss 21 2", x.loss(21, 2), 4000000000000000006L);
    due("loss 2 2", x.loss(2, 2), 4000000000000000002L);
    due("loss 2 -1", x.loss(2, -1), 4000000000000000002L);
    due("refused", x.count(12) + " " + x.count(14) + " " + x.count(16), "2 1 1");
    due("never", with("5", "@04*").loss(2, 0), 0L);
    due("never", with("5", "@04*").loss(2, 1), 1L);
    due("no numbers", with("[?]", "@04*").loss(9, 0) + "/" + with("[?]", "@04*").loss(9, 1), "1/1");
    x = with("[?,(a1b2c3d4),(a5b6c7d8)]", "@04~{.a!*.b!*.c!*.d!*}");
    due("six of eight", x.loss(20, 0) + "/" + x.loss(20, 1), "47045881/64000000");
    x = with("[3,?]", "@04/#0000~#0009");
    due("loss mends", with("9", "~#0005").loss(4, 0) + "/" + with("9", "~#0005").loss(4, 1), "1/4");
    due("either way", x.loss(7, 0) + "/" + x.loss(7, 1), "1/1");
    due("as it was", shown(x, 0), "[3,?]");
  }

  private static void promise24() {
    GathersAllFaults x = with("[9,9,[],?]", "@04#0005");
    due("mean", x.mean(0) + "/" + x.mean(1), "4/5");
    due("mean 2", x.mean(2), 4000000000000000002L);
    due("mean -1", x.mean(-1), 4000000000000000002L);
    due("refused", x.count(12), 2);
    due("least terms", with("[9,9,1]", "@04#0005").mean(0), 1L);
    due("least terms", with("[9,9,1]", "@04#0005").mean(1), 2L);
    due("none", with("[1,1]", "@04#0005").mean(0), 0L);
    due("none", with("[1,1]", "@04#0005").mean(1), 1L);
    due("more than one", with("()", "{a*b*c*}").mean(0), 3L);
    due("more than one", with("()", "{a*b*c*}").mean(1), 1L);
  }

  private static void rows(GathersAllFaults x, int... codes) {
    for (int code : codes) {
      x.row(code);
    }
  }

  private static void promise25() {
    GathersAllFaults x = with("(a7b9)", "{a#0310b#0005}");
    due("empty row", x.which(1), 65535);
    rows(x, 3);
    due("too high, at a or b", x.which(1), 0b1111111111111000);
    due("too high, at b", x.which(2), 0b1111111111000000);
    rows(x, 3);
    due("both too high", x.which(1), 0b1111100000000000);
    rows(x, 3);
    due("more than there are", x.which(1), 0);
    due("the row stays", x.count(6), 3);
    x.clear();
    rows(x, 2);
    due("too low", x.which(1), 7);
    due("whole", x.which(0), 0);
    x.clear();
    rows(x, 5);
    due("whole", x.which(0), 65535);
    due("which 3", x.which(3), -1);
    due("refused", x.count(11), 1);
    due("as it was", shown(x, 0), "(a7b9)");
  }

  private static void promise26to28() {
    GathersAllFaults x = with("[9,9,?]", "@02#0005");
    due("row -1", x.row(-1), -4);
    due("row 100", x.row(100), -6);
    due("row 99", x.row(99), 1);
    due("row 0", x.row(0), 2);
    due("clear", x.clear(), 2);
    due("clear", x.clear(), 0);
    for (int k = 1; k <= 32; k++) {
      due("row " + k, x.row(k), k);
    }
    due("row 33", x.row(1), -6);
    due("row -1 of 33", x.row(-1), -4);
    due("row", x.count(6), 32);
    due("refused", x.count(14) + " " + x.count(16), "2 2");
    due("judge", x.judge(), 0);
    due("row is none", x.count(6), 0);
    due("too few", x.judge(), 0);
    rows(x, 11, 3, 3, 1);
    due("right", x.judge(), -9);
    due("row is none", x.clear(), 0);
    rows(x, 11, 3, 3, 1, 1);
    due("one too many", x.judge(), 4);
    rows(x, 11, 3, 3);
    due("too few", x.judge(), 3);
    rows(x, 11, 3, 2, 1);
    due("not so", x.judge(), 2);
    rows(x, 3);
    due("not so, and too few", x.judge(), 0);
    x.puts(0, 5);
    check(x, "#0005");
    due("none of none", x.judge(), -9);
    rows(x, 1);
    due("one of none", x.judge(), 0);
  }

  private static int drawn;

  private static int draw(int m) {
    drawn = drawn * 1664525 + 1013904223;
    return (drawn & 0x7fffffff) / 256 % m;
  }

  private static void promise29() {
    GathersAllFaults x = with("[1,2,3,4]", "@04~#0050");
    for (int seed : new int[] {0, 7, -1, Integer.MIN_VALUE, 123456789, -99}) {
      drawn = seed;
      int all = 0;
      int whole = 0;
      for (int k = 0; k < 20; k++) {
        GathersAllFaults y = with("[1,2,3,4]", "@04~#0050");
        for (int i = 0; i < 4; i++) {
          int path = y.path(draw(y.count(0)));
          if (draw(4) == 0) {
            y.drops(path);
          } else {
            y.puts(path, draw(100));
          }
        }
        all += y.faults();
        whole += y.faults() == 0 ? 1 : 0;
        due("lots " + (k + 1) + " " + seed + " 0", x.lots(k + 1, seed, 0), all);
        due("lots " + (k + 1) + " " + seed + " 1", x.lots(k + 1, seed, 1), whole);
      }
    }
    due("as it was", shown(x, 0), "[1,2,3,4]");
    due("lots 0 2", x.lots(0, 0, 2), -4);
    due("lots 21 2", x.lots(21, 0, 2), -6);
    due("lots 1 2", x.lots(1, 0, 2), -2);
    due("lots 1 -1", x.lots(1, 0, -1), -2);
    due("refused", x.count(12) + " " + x.count(14) + " " + x.count(16), "2 1 1");
  }

  private static void promise30and31() {
    GathersAllFaults x = with(WHOLE, "{.a*.b*}");
    due("on", x.on(), -3);
    due("refused", x.count(13), 1);
    due("image", x.image(), 8);
    x.puts(2, 4);
    check(x, "#0001");
    rows(x, 1, 2);
    x.letter('5');
    x.path(-1);
    due("then", found(x), "0:1 |0");
    due("on", x.on(), 8);
    due("value", shown(x, 0), WHOLE);
    due("check", found(x), "3:7 |0");
    due("checks", x.count(1), 3);
    due("row stays", x.count(6), 2);
    due("letters stay", x.count(7), 1);
    due("refusals stay", x.count(11) + " " + x.count(13), "1 1");
    x.drops(0);
    due("on again", x.on(), 8);
    due("value", shown(x, 0), WHOLE);
    x.drops(3);
    due("image again", x.image(), 7);
    x.puts(0, 1);
    due("on", x.on(), 7);
    due("value", shown(x, 0), "(a5b[3,?,3]c?)");
  }

  private static void promise32() {
    GathersAllFaults x = with(WHOLE, "&{.a#0001.b*.e*<ab<ae}");
    rows(x, 1, 2, 3);
    tell(x, "(a");
    int[] want = {8, 5, 2, 4, 34, 3, 3, 2};
    for (int what = 0; what < want.length; what++) {
      due("count " + what, x.count(what), want[what]);
    }
    for (int what : new int[] {-1, 8, 9, 10, 17, 99, Integer.MIN_VALUE, Integer.MAX_VALUE}) {
      due("count " + what, x.count(what), -9);
    }
    x.path(-1);
    x.part(0, 9);
    x.part(0, 9);
    x.without(0);
    x.below(-1);
    x.below(-1);
    x.below(-1);
    x.below(100000);
    x.mean(4);
    x.loss(99, 0);
    int[] refused = {1, 3, 1, 3, 0, 2};
    for (int k = 0; k < 6; k++) {
      due("count " + (11 + k), x.count(11 + k), refused[k]);
    }
    due("greatest path of the whole", with("5", "*").count(4), 0);
    due("greatest path as a number", with("[(a1),2]", "*").count(4), 61);
    due("greatest path as a number", with("[1,(a1),2]", "*").count(4), 71);
  }

  public static void main(String[] args) {
    promise1();
    promise2();
    promise3();
    promise4();
    numbersAndNothing();
    records();
    dependents();
    lists();
    either();
    byTheWhole();
    promise5();
    promise6();
    promise7and8();
    promise9to11();
    promise12and13();
    promise14and15();
    promise16to19();
    promise20();
    promise21();
    promise22();
    promise23();
    promise24();
    promise25();
    promise26to28();
    promise29();
    promise30and31();
    promise32();
    System.out.println(asked + " answers, " + wrong + " not as due");
    if (wrong != 0) {
      System.exit(1);
    }
  }
}
