import java.io.IOException;
import java.net.URL;
import java.net.URLClassLoader;
import java.nio.file.Files;
import java.nio.file.Path;
import java.util.Comparator;
import java.util.List;
import java.util.Set;
import java.util.TreeSet;
import java.util.regex.Matcher;
import java.util.regex.Pattern;
import java.util.stream.Collectors;
import java.util.stream.Stream;
import javax.tools.ToolProvider;

/** What README.md says of the class and of its tests is so. */
public final class ReadmeTest {
  private static final Path README = Path.of("README.md");
  private static final Path DOCUMENT = Path.of("../shared/DOC.md");
  private static final Path TESTS = Path.of("src/test/java");
  private static final String EXAMPLE = "ReadmeExample";
  private static int wrong = 0;

  private ReadmeTest() {
  }

  public static void main(String[] args) throws Exception {
    String readme = Files.readString(README);
    int answers = example(readme);
    same("calls", calls(readme), promised(Files.readString(DOCUMENT)));
    same("classes inside", classes(readme), Stream.of(HangsTogether.class.getDeclaredClasses())
        .map(Class::getSimpleName).collect(Collectors.toCollection(TreeSet::new)));
    same("tests and their helpers", tests(readme), files());
    statements(readme);
    System.out.println(answers + " answers of the example, " + wrong + " faults");
    if (wrong > 0) {
      System.exit(1);
    }
  }

  private static void fault(String what) {
    wrong++;
    System.out.println(what);
  }

  private static void same(String what, Set<String> said, Set<String> is) {
    if (is.isEmpty() || !said.equals(is)) {
      fault(what + ": README.md says " + said + ", there are " + is);
    }
  }

  private static Set<String> found(String pattern, String text) {
    Set<String> found = new TreeSet<>();
    Matcher matcher = Pattern.compile(pattern).matcher(text);
    while (matcher.find()) {
      found.add(matcher.groupCount() == 2 ? matcher.group(1) + " " + matcher.group(2) : matcher.group(1));
    }
    return found;
  }

  private static String part(String readme, String heading) {
    int start = readme.indexOf("## " + heading);
    int end = readme.indexOf("\n## ", start + 1);
    return start < 0 ? "" : readme.substring(start, end < 0 ? readme.length() : end);
  }

  /** Each call with its promise's number and the names of its arguments. */
  private static Set<String> calls(String readme) {
    return found("(?m)^\\| (\\d+) \\| `(\\w+\\([^)]*\\))` \\|", part(readme, "How to use it"));
  }

  private static Set<String> promised(String document) {
    Set<String> promised = new TreeSet<>();
    Matcher matcher = Pattern.compile("## Promise (\\d+): [^\\n]*\\s+`(?:int |long )?(\\w+)\\(([^)]*)\\)`").matcher(document);
    while (matcher.find()) {
      promised.add(matcher.group(1) + " " + matcher.group(2) + "(" + matcher.group(3).replaceAll("\\bint ", "") + ")");
    }
    return promised;
  }

  private static Set<String> classes(String readme) {
    return found("(?m)^\\| `(\\w+)` \\|", part(readme, "How it is made"));
  }

  private static Set<String> tests(String readme) {
    return found("`([A-Z]\\w+)`", part(readme, "How to run its tests"));
  }

  private static Set<String> files() throws IOException {
    try (Stream<Path> files = Files.list(TESTS)) {
      return files.map(file -> file.getFileName().toString().replace(".java", ""))
          .collect(Collectors.toCollection(TreeSet::new));
    }
  }

  /** The statements that README.md shows come without a fault. */
  private static void statements(String readme) {
    Set<String> shown = found("`([hlkxf][\\d,]+;)`", part(readme, "How to use it"));
    if (shown.size() < 5) {
      fault("too few statements are shown: " + shown);
    }
    for (String statement : shown) {
      HangsTogether x = Due.of("l00111,1;");
      if (Due.tell(x, statement) != 1) {
        fault("is no statement: " + statement);
      }
    }
  }

  /** Compiles the example with each answer that its comments tell, and runs it: how many answers. */
  private static int example(String readme) throws Exception {
    int start = readme.indexOf("```java\n") + 8;
    int end = readme.indexOf("```", start);
    Matcher lines = Pattern.compile("(?m)^(x\\.[^;]*);\\s+// (-?\\d+)\\b.*$").matcher(readme.substring(start, end));
    int answers = (int) lines.results().count();
    String body = lines.replaceAll(line -> Matcher.quoteReplacement(
        "due(\"" + line.group(1) + "\", " + line.group(1) + ", " + line.group(2) + "L);"));
    String source = "public final class " + EXAMPLE + " {\n"
        + "static final java.util.List<String> wrong = new java.util.ArrayList<>();\n"
        + "static void due(String call, long got, long want) {\n"
        + "if (got != want) { wrong.add(call + \" answered \" + got + \", README.md says \" + want); }\n}\n"
        + "public static java.util.List<String> run() {\n" + body + "return wrong;\n}\n}\n";
    if (answers < 10) {
      fault("the example has only " + answers + " answers");
    }
    Path folder = Files.createTempDirectory("readme");
    try {
      runExample(source, folder);
    } finally {
      remove(folder);
    }
    return answers;
  }

  private static void runExample(String source, Path folder) throws Exception {
    Path file = Files.writeString(folder.resolve(EXAMPLE + ".java"), source);
    int compiled = ToolProvider.getSystemJavaCompiler().run(null, null, null,
        "-cp", System.getProperty("java.class.path"), "-d", folder.toString(), file.toString());
    if (compiled != 0) {
      fault("the example does not compile");
      return;
    }
    try (URLClassLoader loader = new URLClassLoader(new URL[] {folder.toUri().toURL()})) {
      List<?> said = (List<?>) loader.loadClass(EXAMPLE).getMethod("run").invoke(null);
      said.forEach(one -> fault(one.toString()));
    }
  }

  private static void remove(Path folder) throws IOException {
    try (Stream<Path> files = Files.walk(folder)) {
      for (Path file : files.sorted(Comparator.reverseOrder()).collect(Collectors.toList())) {
        Files.delete(file);
      }
    }
  }
}
