import java.io.ByteArrayOutputStream;
import java.io.IOException;
import java.io.InputStream;
import java.lang.reflect.InvocationTargetException;
import java.lang.reflect.Method;
import java.lang.reflect.Modifier;
import java.net.URL;
import java.net.URLClassLoader;
import java.nio.file.Files;
import java.nio.file.Path;
import java.util.ArrayList;
import java.util.Comparator;
import java.util.List;
import java.util.Set;
import java.util.TreeSet;
import java.util.regex.Matcher;
import java.util.regex.Pattern;
import java.util.stream.Stream;
import javax.tools.ToolProvider;

/** Looks whether README.md tells the truth: its examples, its command for the tests, the files that it names. */
public final class ReadmeTest {
  private static final String USE = "How to use it";
  private static final String TESTS = "How to run its tests";
  private static final String MAIN = "  public static void main(String[] args) {";
  private static final Pattern ANSWERED = Pattern.compile("(x\\.\\w+\\(.*\\));\\s*// (-?\\d+)(: .+)?");
  private static final Pattern PLAIN =
      Pattern.compile("GathersAllFaults x = new GathersAllFaults\\(\\);|tell\\(x, \"[^\"]+\"\\);");

  /** A text between two lines of three strokes, and where it stands. */
  private record Block(String section, String language, int line, List<String> lines) {
    String text() {
      return String.join("\n", lines) + "\n";
    }
  }

  /** A call of an example, and what README.md says that it answers. */
  private record Answer(int line, String call, long said) {
  }

  /** An example behind the program: its statements, with the calls that it tells the answers of noted down. */
  private static final class Snippet {
    final int line;
    final StringBuilder body = new StringBuilder();
    final List<Answer> answers = new ArrayList<>();

    Snippet(int line) {
      this.line = line;
    }

    String name() {
      return "Snippet" + line;
    }
  }

  private static List<Block> blocks(String readme) {
    List<Block> blocks = new ArrayList<>();
    String section = "";
    Block open = null;
    int at = 0;
    for (String line : readme.split("\n")) {
      at++;
      if (line.startsWith("```") && open == null) {
        open = new Block(section, line.substring(3), at, new ArrayList<>());
      } else if (line.startsWith("```")) {
        blocks.add(open);
        open = null;
      } else if (open != null) {
        open.lines.add(line);
      } else if (line.startsWith("## ")) {
        section = line.substring(3);
      }
    }
    return blocks;
  }

  private static List<Block> blocksOf(String readme, String section) {
    List<Block> blocks = blocks(readme);
    blocks.removeIf(b -> !b.section.equals(section));
    return blocks;
  }

  /** Every block must be one that is looked at: the program, how to run it, what it says, examples, the command. */
  private static List<String> amissInOrder(String readme) {
    List<String> amiss = new ArrayList<>();
    List<String> order = new ArrayList<>();
    for (Block b : blocks(readme)) {
      order.add(b.section + ": " + b.language);
    }
    String java = USE + ": java";
    List<String> due = new ArrayList<>(List.of(java, USE + ": sh", USE + ": text"));
    while (due.size() < order.size() - 1) {
      due.add(java);
    }
    due.add(TESTS + ": sh");
    if (order.size() < 5 || !order.equals(due)) {
      amiss.add("the blocks of README.md are not those that are looked at: " + order);
    }
    return amiss;
  }

  /** What a command says, its faults too, and how it ended. */
  private static String said(Path in, String script) throws IOException, InterruptedException {
    ProcessBuilder builder = new ProcessBuilder("bash", "-euc", script).directory(in.toFile());
    Process process = builder.redirectErrorStream(true).start();
    process.getOutputStream().close();
    String text;
    try (InputStream out = process.getInputStream()) {
      text = new String(out.readAllBytes());
    }
    int result = process.waitFor();
    return result == 0 ? text : text + "ended with " + result + "\n";
  }

  /** The program, compiled and run as README.md tells, must say what stands there. */
  private static List<String> amissInProgram(String readme, Path source) throws IOException, InterruptedException {
    List<String> amiss = new ArrayList<>();
    List<Block> use = blocksOf(readme, USE);
    Path in = Files.createTempDirectory("readme");
    try {
      Path copy = in.resolve("src/main/java/GathersAllFaults.java");
      Files.createDirectories(copy.getParent());
      Files.copy(source, copy);
      Files.writeString(in.resolve("Example.java"), use.get(0).text());
      String said = said(in, use.get(1).text());
      if (!said.equals(use.get(2).text())) {
        amiss.add("the program in line " + use.get(0).line + " says\n" + said);
      }
    } finally {
      delete(in);
    }
    return amiss;
  }

  private static void delete(Path tree) throws IOException {
    try (Stream<Path> all = Files.walk(tree)) {
      for (Path path : all.sorted(Comparator.reverseOrder()).toList()) {
        Files.delete(path);
      }
    }
  }

  private static List<Snippet> snippets(String readme, List<String> amiss) {
    List<Snippet> snippets = new ArrayList<>();
    List<Block> use = blocksOf(readme, USE);
    for (Block b : use.subList(3, use.size())) {
      Snippet snippet = new Snippet(b.line);
      int line = b.line;
      for (String text : b.lines) {
        line++;
        Matcher answered = ANSWERED.matcher(text);
        if (answered.matches()) {
          snippet.answers.add(new Answer(line, answered.group(1), Long.parseLong(answered.group(2))));
          snippet.body.append("    answers.add((long) ").append(answered.group(1)).append(");\n");
        } else if (PLAIN.matcher(text).matches()) {
          snippet.body.append("    ").append(text).append("\n");
        } else {
          amiss.add("line " + line + " is no statement with its answer: " + text);
        }
      }
      snippets.add(snippet);
    }
    return snippets;
  }

  /** The program with an example in its main in place of what is there. */
  private static String with(String program, Snippet snippet) {
    int from = program.indexOf(MAIN);
    int to = program.indexOf("\n  }\n", from);
    String first = "public class Example {\n";
    if (!program.startsWith(first) || from < 0 || to < 0) {
      throw new IllegalStateException("the program of README.md has no main where examples can stand");
    }
    return "public class " + snippet.name() + " {\n"
        + "  public static java.util.List<Long> answers = new java.util.ArrayList<>();\n"
        + program.substring(first.length(), from) + MAIN + "\n" + snippet.body + program.substring(to + 1);
  }

  private static String compiled(String program, List<Snippet> snippets, Path in) throws IOException {
    List<String> arguments = new ArrayList<>(List.of("-proc:none", "-cp", System.getProperty("java.class.path"), "-d",
        in.toString()));
    for (Snippet snippet : snippets) {
      Path file = in.resolve(snippet.name() + ".java");
      Files.writeString(file, with(program, snippet));
      arguments.add(file.toString());
    }
    ByteArrayOutputStream said = new ByteArrayOutputStream();
    int result = ToolProvider.getSystemJavaCompiler().run(null, said, said, arguments.toArray(new String[0]));
    return result == 0 ? "" : "an example does not compile:\n" + said;
  }

  private static void compare(Snippet snippet, URLClassLoader loader, List<String> amiss) throws Exception {
    Class<?> made = loader.loadClass(snippet.name());
    try {
      made.getMethod("main", String[].class).invoke(null, (Object) new String[0]);
    } catch (InvocationTargetException thrown) {
      amiss.add("the example in line " + snippet.line + " throws " + thrown.getCause());
      return;
    }
    List<?> got = (List<?>) made.getField("answers").get(null);
    for (int i = 0; i < snippet.answers.size(); i++) {
      Answer answer = snippet.answers.get(i);
      if (!got.get(i).equals(answer.said)) {
        amiss.add("line " + answer.line + ": " + answer.call + " answers " + got.get(i) + ", not " + answer.said);
      }
    }
  }

  /** Each example must compile, and each call in it answer what stands behind it. */
  private static List<String> amissInSnippets(String readme) throws Exception {
    List<String> amiss = new ArrayList<>();
    List<Snippet> snippets = snippets(readme, amiss);
    Path in = Files.createTempDirectory("readme");
    try {
      String wrong = compiled(blocksOf(readme, USE).get(0).text(), snippets, in);
      if (!wrong.isEmpty()) {
        amiss.add(wrong);
        return amiss;
      }
      try (URLClassLoader loader = new URLClassLoader(new URL[] {in.toUri().toURL()})) {
        for (Snippet snippet : snippets) {
          compare(snippet, loader, amiss);
        }
      }
    } finally {
      delete(in);
    }
    return amiss;
  }

  /** The command of README.md must be all that .ci/run runs, but for finding the project. */
  private static List<String> amissInCommand(String readme, String ci) {
    List<String> amiss = new ArrayList<>();
    List<String> run = new ArrayList<>();
    for (String line : ci.split("\n")) {
      if (!line.isBlank() && !line.startsWith("#") && !line.startsWith("set ") && !line.startsWith("cd ")) {
        run.add(line);
      }
    }
    List<String> named = blocksOf(readme, TESTS).get(0).lines;
    if (named.size() != 1 || !run.equals(named)) {
      amiss.add("README.md names " + named + " for the tests, .ci/run runs " + run);
    }
    return amiss;
  }

  /** Every call of the class must be in an example that tells its answer, every file of the tests be named. */
  private static List<String> amissInNames(String readme, Set<String> files) {
    List<String> amiss = new ArrayList<>();
    Set<String> called = new TreeSet<>();
    for (Snippet snippet : snippets(readme, amiss)) {
      for (Answer answer : snippet.answers) {
        called.add(answer.call.substring(2, answer.call.indexOf('(')));
      }
    }
    for (Method method : GathersAllFaults.class.getDeclaredMethods()) {
      if (Modifier.isPublic(method.getModifiers()) && !called.contains(method.getName())) {
        amiss.add("no example tells what " + method.getName() + " answers");
      }
    }
    Set<String> named = new TreeSet<>();
    Matcher names = Pattern.compile("`(\\w+\\.java)`").matcher(readme.substring(readme.indexOf("## " + TESTS)));
    while (names.find()) {
      named.add(names.group(1));
    }
    if (!named.equals(files)) {
      amiss.add("README.md names the files of the tests " + named + ", there are " + files);
    }
    return amiss;
  }

  private static Set<String> files(Path directory) throws IOException {
    try (Stream<Path> all = Files.list(directory)) {
      return new TreeSet<>(all.map(path -> path.getFileName().toString()).toList());
    }
  }

  /** The text with one thing changed, which must be there. */
  private static String changed(String text, String from, String to) {
    if (!text.contains(from)) {
      throw new IllegalStateException("not there: " + from);
    }
    int at = text.indexOf(from);
    return text.substring(0, at) + to + text.substring(at + from.length());
  }

  private static void mustTell(String what, List<String> amiss, List<String> wrong) {
    if (wrong.isEmpty()) {
      amiss.add("this test does not tell " + what);
    }
  }

  /** A README.md whose every answer is one too great; all of them must be told. */
  private static List<String> amissIfAnswersAreWrong(String readme) throws Exception {
    List<String> amiss = new ArrayList<>();
    StringBuilder wrong = new StringBuilder();
    int answers = 0;
    for (String line : readme.split("\n")) {
      Matcher number = Pattern.compile("// (-?\\d+)").matcher(line);
      if (number.find()) {
        answers++;
        String other = "// " + (Long.parseLong(number.group(1)) + 1);
        wrong.append(changed(line, number.group(), other)).append("\n");
      } else {
        wrong.append(line).append("\n");
      }
    }
    int told = amissInSnippets(wrong.toString()).size();
    if (told != answers) {
      amiss.add("of " + answers + " wrong answers this test tells " + told);
    }
    return amiss;
  }

  /** This test must tell a README.md that does not tell the truth. */
  private static List<String> amissInThis(String readme, String ci, Path source) throws Exception {
    List<String> amiss = amissIfAnswersAreWrong(readme);
    String command = blocksOf(readme, TESTS).get(0).lines.get(0);
    mustTell("another command in README.md", amiss, amissInCommand(changed(readme, command, "make test"), ci));
    mustTell("another command in .ci/run", amiss, amissInCommand(readme, changed(ci, command, "true")));
    mustTell("a second command in .ci/run", amiss, amissInCommand(readme, ci + "true\n"));
    mustTell("what else the program says", amiss, amissInProgram(changed(readme, "at 27: 12", "at 27: 9"), source));
    mustTell("a program that does not compile", amiss,
        amissInProgram(changed(readme, "letters.length()", "letters.size()"), source));
    mustTell("an example that does not compile", amiss, amissInSnippets(changed(readme, "x.mend(0);", "x.mend();")));
    mustTell("an example without an answer", amiss, amissInSnippets(changed(readme, "// -9: ", "// ")));
    mustTell("a call in no example", amiss, amissInNames(readme.replaceAll("x\\.clear\\(\\);.*", "x.judge(); // 0"),
        files(Path.of("src/test/java"))));
    mustTell("a file that is not named", amiss, amissInNames(readme, Set.of("EdgesTest.java")));
    mustTell("a block of another kind", amiss, amissInOrder(readme + "```python\nx = 1\n```\n"));
    return amiss;
  }

  public static void main(String[] args) throws Exception {
    Path source = Path.of(args[0]);
    String readme = Files.readString(Path.of("README.md"));
    String ci = Files.readString(Path.of(".ci/run"));
    List<String> amiss = new ArrayList<>(amissInOrder(readme));
    if (amiss.isEmpty()) {
      amiss.addAll(amissInProgram(readme, source));
      amiss.addAll(amissInSnippets(readme));
      amiss.addAll(amissInCommand(readme, ci));
      amiss.addAll(amissInNames(readme, files(Path.of("src/test/java"))));
    }
    if (amiss.isEmpty()) {
      amiss.addAll(amissInThis(readme, ci, source));
    }
    amiss.forEach(System.out::println);
    System.out.println(amiss.isEmpty() ? "README.md tells the truth" : "README.md does not tell the truth");
    if (!amiss.isEmpty()) {
      System.exit(1);
    }
  }
}
