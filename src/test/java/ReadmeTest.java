import java.io.IOException;
import java.lang.reflect.InvocationTargetException;
import java.lang.reflect.Method;
import java.lang.reflect.Modifier;
import java.net.URL;
import java.net.URLClassLoader;
import java.nio.file.Files;
import java.nio.file.Path;
import java.util.ArrayList;
import java.util.Comparator;
import java.util.List;
import java.util.Set;
import java.util.TreeSet;
import java.util.regex.Matcher;
import java.util.regex.Pattern;
import java.util.stream.Stream;
import javax.tools.ToolProvider;

/** README.md is true: its example answers as it says, each method stands there, and each test at its promise. */
public final class ReadmeTest {
  private static final Checks CHECKS = new Checks("ReadmeTest");
  private static final Path PAGE = Path.of("README.md"), TESTS = Path.of("src/test/java");
  private static final int PROMISES = 30;

  // ---- the example

  private static String between(String text, String start, String end) {
    int from = text.indexOf(start);
    int to = from < 0 ? -1 : text.indexOf(end, from + start.length());
    return to < 0 ? "" : text.substring(from + start.length(), to);
  }

  /** A class with the lines of the example, each one followed by a look at what is said behind it. */
  private static String sourceOf(String example) {
    StringBuilder source = new StringBuilder("public final class Example {\n  public static String wrong() {\n    String wrong = \"\";\n");
    Pattern answered = Pattern.compile("(int|float) (\\w+) = .*; +// (-?\\d+)\\b.*");
    int answers = 0;
    for (String line : example.strip().split("\n")) {
      source.append(line).append('\n');
      Matcher one = answered.matcher(line);
      if (one.matches()) {
        answers++;
        source.append("wrong += ").append(one.group(2)).append(" == ").append(one.group(3)).append(" ? \"\" : \" ")
            .append(one.group(2)).append(": \" + ").append(one.group(2)).append(";\n");
      }
    }
    CHECKS.holds("the example has answers", answers > 10);
    return source.append("    return wrong;\n  }\n}\n").toString();
  }

  private static void example(String page) throws IOException, ReflectiveOperationException {
    Path out = Files.createTempDirectory("example");
    try {
      Path file = out.resolve("Example.java");
      Files.writeString(file, sourceOf(between(page, "```java\n", "```")));
      int failed = ToolProvider.getSystemJavaCompiler().run(null, null, null,
          "-cp", System.getProperty("java.class.path"), "-d", out.toString(), file.toString());
      CHECKS.due("the example is compiled, javac", failed, 0);
      if (failed == 0) {
        CHECKS.holds("the example answers as it says; not so:" + wrongIn(out), wrongIn(out).isEmpty());
      }
    } finally {
      delete(out);
    }
  }

  private static String wrongIn(Path out) throws IOException, ReflectiveOperationException {
    try (URLClassLoader loader = new URLClassLoader(new URL[] {out.toUri().toURL()}, ReadmeTest.class.getClassLoader())) {
      return (String) loader.loadClass("Example").getMethod("wrong").invoke(null);
    } catch (InvocationTargetException thrown) {
      return " it throws " + thrown.getCause();
    }
  }

  private static void delete(Path directory) throws IOException {
    try (Stream<Path> files = Files.walk(directory)) {
      for (Path file : files.sorted(Comparator.reverseOrder()).toList()) {
        Files.delete(file);
      }
    }
  }

  // ---- the methods

  private static Set<String> methodsOf(String page) {
    Set<String> found = new TreeSet<>();
    Matcher entry = Pattern.compile("(?m)^- \\*\\*`(\\w+)\\(([^)]*)\\)`\\*\\*").matcher(page);
    while (entry.find()) {
      String arguments = entry.group(2);
      CHECKS.holds(entry.group(1) + " stands there once", found.add(
          entry.group(1) + " " + (arguments.isEmpty() ? 0 : arguments.split(", ").length)));
    }
    return found;
  }

  private static void methods(String page) {
    Set<String> due = new TreeSet<>();
    for (Method method : QuarryOrders.class.getDeclaredMethods()) {
      if (Modifier.isPublic(method.getModifiers())) {
        due.add(method.getName() + " " + method.getParameterCount());
      }
    }
    CHECKS.holds("the methods are those of the class: " + methodsOf(page), methodsOf(page).equals(due));
    for (String entry : between(page, "## The methods\n", "## Tests\n").split("(?m)^- \\*\\*`")) {
      if (!entry.startsWith("\n")) {
        String name = entry.substring(0, entry.indexOf('`'));
        CHECKS.holds(name + " has its answer, and its errors behind it",
            entry.contains("\n  - Answer: ") && entry.indexOf("\n  - Errors: ") > entry.indexOf("\n  - Answer: "));
      }
    }
  }

  // ---- the tests

  /** The functions that the main function of a test calls. */
  private static Set<String> functionsOf(String test) throws IOException {
    String source = Files.readString(TESTS.resolve(test + ".java"));
    Set<String> found = new TreeSet<>();
    Matcher call = Pattern.compile("(?m)^    (\\w+)\\(\\);$").matcher(between(source, "public static void main(", "\n  }"));
    while (call.find()) {
      found.add(test + "." + call.group(1));
    }
    return found;
  }

  private static List<String> testsThereAre() throws IOException {
    List<String> found = new ArrayList<>();
    try (Stream<Path> files = Files.list(TESTS)) {
      for (Path file : files.sorted().toList()) {
        String name = file.getFileName().toString();
        if (name.endsWith("Test.java")) {
          found.add(name.substring(0, name.length() - ".java".length()));
        }
      }
    }
    return found;
  }

  /** Each row of promises names functions of tests that there are, and each function of them stands in a row. */
  private static void tests(String page) throws IOException {
    Set<String> due = new TreeSet<>();
    for (String test : testsThereAre()) {
      CHECKS.holds(test + " stands there", page.contains("`" + test + "`"));
      if (page.contains("`" + test + "`: ")) {
        due.addAll(functionsOf(test));
      }
    }
    Set<String> found = new TreeSet<>();
    for (int promise = 1; promise <= PROMISES; promise++) {
      String row = between(page, "\n| " + promise + " ", "|\n");
      Set<String> named = new TreeSet<>();
      Matcher part = Pattern.compile("`(\\w+Test)`: ([\\w, ]+)").matcher(row);
      while (part.find()) {
        for (String function : part.group(2).strip().split(", ")) {
          named.add(part.group(1) + "." + function);
        }
      }
      CHECKS.holds("promise " + promise + " has tests, and tests of its edges", named.size() > 1 && row.contains("EdgesTest`: "));
      found.addAll(named);
    }
    Set<String> missing = new TreeSet<>(due);
    missing.removeAll(found);
    CHECKS.holds("no function is missing: " + missing, missing.isEmpty());
    found.removeAll(due);
    CHECKS.holds("there are all that are named: " + found, found.isEmpty());
  }

  public static void main(String[] args) throws IOException, ReflectiveOperationException {
    String page = Files.readString(PAGE);
    example(page);
    methods(page);
    tests(page);
    CHECKS.end();
  }
}
