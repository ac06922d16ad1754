import java.io.IOException;
import java.lang.reflect.Constructor;
import java.lang.reflect.Field;
import java.lang.reflect.Method;
import java.lang.reflect.Modifier;
import java.nio.file.Files;
import java.nio.file.Path;
import java.util.Arrays;
import java.util.List;
import java.util.Set;
import java.util.TreeSet;
import java.util.regex.Matcher;
import java.util.regex.Pattern;
import java.util.stream.Collectors;

/** Looks whether the class's file keeps to LANGUAGE.md, as far as its text and its members tell. */
public final class LanguageTest {
  private static final Set<String> FACE = new TreeSet<>(List.of("int letter(int)", "int value()", "int check()",
      "int part(int,int)", "int path(int)", "int puts(int,int)", "int drops(int)", "int faults()", "int fault(int,int)",
      "int coded(int)", "int below(int)", "int waits()", "int first()", "int limited(int,int)", "int total()",
      "int same(int,int)", "int different()", "int often(int)", "int without(int)", "int mend(int)",
      "int range(int,int)", "long loss(int,int)", "long mean(int)", "int which(int)", "int row(int)", "int judge()",
      "int clear()", "int lots(int,int,int)", "int image()", "int on()", "int count(int)"));

  private static int wrong = 0;

  private static void holds(String rule, boolean kept) {
    if (!kept) {
      wrong++;
      System.out.println("not kept: " + rule);
    }
  }

  private static String signature(Method m) {
    String types = Arrays.stream(m.getParameterTypes()).map(Class::getSimpleName).collect(Collectors.joining(","));
    return m.getReturnType().getSimpleName() + " " + m.getName() + "(" + types + ")";
  }

  private static void members() {
    Class<?> c = GathersAllFaults.class;
    holds("1: public and final", Modifier.isPublic(c.getModifiers()) && Modifier.isFinal(c.getModifiers()));
    Set<String> open = new TreeSet<>();
    Set<String> names = new TreeSet<>();
    for (Method m : c.getDeclaredMethods()) {
      if (Modifier.isPublic(m.getModifiers())) {
        open.add(signature(m));
        names.add(m.getName());
      } else {
        holds("1: private " + m, Modifier.isPrivate(m.getModifiers()));
      }
    }
    holds("1: the document's face", open.equals(FACE));
    for (Constructor<?> k : c.getDeclaredConstructors()) {
      holds("1: constructor", k.getParameterCount() == 0 && Modifier.isPublic(k.getModifiers()));
    }
    for (Method m : c.getDeclaredMethods()) {
      holds("1: name of " + m, Modifier.isPublic(m.getModifiers()) || !names.contains(m.getName()));
    }
    fields(c);
    holds("11: twelve classes", c.getDeclaredClasses().length < 12);
    for (Class<?> in : c.getDeclaredClasses()) {
      holds("1: " + in, Modifier.isStatic(in.getModifiers()));
      for (Method m : in.getDeclaredMethods()) {
        holds("1: name of " + m, !names.contains(m.getName()));
        holds("11: parameters of " + m, m.getParameterCount() <= 7);
      }
      fields(in);
    }
  }

  private static void fields(Class<?> c) {
    int many = 0;
    for (Field f : c.getDeclaredFields()) {
      boolean fixed = Modifier.isStatic(f.getModifiers());
      many += fixed ? 0 : 1;
      holds("5: " + f, !fixed || Modifier.isFinal(f.getModifiers()));
      holds("1: " + f, c != GathersAllFaults.class || Modifier.isPrivate(f.getModifiers()));
    }
    holds("11: fields of " + c, many <= 20);
  }

  private static void text(String source) {
    holds("3: signs 1 to 127", source.chars().allMatch(c -> c < 128));
    String bare = source.replaceAll("(?s)/\\*.*?\\*/", "").replaceAll("//.*", "").replaceAll("'[^']'", "'x'");
    for (String word : List.of("import", "package", "throw", "try", "catch", "finally", "synchronized", "assert",
        "String", "Object", "System\\.out", "Exception", "enum", "record", "var", "float", "double")) {
      holds("no " + word, !Pattern.compile("\\b" + word + "\\b").matcher(bare).find());
    }
    for (String sign : List.of("->", "::", "@", "\"")) {
      holds("no " + sign, !bare.contains(sign));
    }
    Matcher index = Pattern.compile("\\b\\w+\\[[^\\]]+\\]").matcher(bare);
    while (index.find()) {
      String at = index.group();
      holds("7: " + at, at.matches("int\\[[A-Z]+\\]|int\\[7\\]|row\\[i\\]"));
    }
    for (String line : bare.split("\n")) {
      boolean field = line.matches("  (  )?(private |final )+\\S+ \\w+ = new .*;");
      holds("12: " + line, !line.contains("new ") || field);
    }
    Matcher library = Pattern.compile("\\b(Math|Integer|Long|System|Arrays)\\.\\w+").matcher(bare);
    while (library.find()) {
      holds("4: " + library.group(),
          Set.of("Math.min", "Math.max", "Integer.bitCount", "System.arraycopy").contains(library.group()));
    }
  }

  private static void lengths(String source) {
    int from = 0;
    int at = 0;
    for (String line : source.split("\n")) {
      at++;
      if (line.matches(" {2,4}[a-z].*\\) \\{")) {
        from = at;
      } else if (line.matches(" {2,4}\\}")) {
        holds("11: a method of " + (at - from) + " lines at " + from, at - from <= 60);
        from = at;
      }
    }
  }

  public static void main(String[] args) throws IOException {
    String source = Files.readString(Path.of(args[0]));
    members();
    text(source);
    lengths(source);
    System.out.println(wrong == 0 ? "the file keeps to the rules looked at" : wrong + " rules are not kept");
    if (wrong != 0) {
      System.exit(1);
    }
  }
}
