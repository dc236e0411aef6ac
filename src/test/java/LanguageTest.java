import java.lang.reflect.Constructor;
import java.lang.reflect.Field;
import java.lang.reflect.Method;
import java.lang.reflect.Modifier;
import java.nio.file.Files;
import java.nio.file.Path;
import java.util.Set;
import java.util.TreeSet;
import java.util.regex.Matcher;
import java.util.regex.Pattern;

/** What of ../shared/LANGUAGE.md can be seen by looking, and that a call makes no objects. */
public final class LanguageTest {
  private static final Path SOURCE = Path.of("src/main/java/HangsTogether.java");
  private static final String[] FACE = {
      "public int feed(int letter)", "public int village()", "public int lane(int lane, int what)",
      "public int rule(int lane, int as)", "public int takeUp()", "public int is(int lanes)",
      "public int hangs(int lanes)", "public int parts(int lanes)", "public int many()",
      "public long sum()", "public int way(int i)", "public long likely(int lane, int part)",
      "public long pair(int one, int other, int part)", "public int less(int one, int other)",
      "public int inAll()", "public int inNone()", "public int cheap(int i, int what)",
      "public int nights(int from, int to)", "public int step(int from, int to)",
      "public long toward(int house, int what)", "public int forests(int k)",
      "public int ploughs(int houses)", "public long hard(int from, int to, int part)",
      "public long more(int one, int other, int part)", "public long holds(int part)",
      "public int plan(int k, int what)", "public int draw(int drawer, int z)",
      "public int often(int drawer, int lane, int n, int z)", "public int row(int lane)",
      "public int judge()", "public int image()", "public int restore()", "public int count(int what)"};
  private static int wrong = 0;

  public static void main(String[] args) throws Exception {
    String source = Files.readString(SOURCE);
    face(source);
    words(withoutComments(source));
    for (Class<?> inside : HangsTogether.class.getDeclaredClasses()) {
      members(inside);
    }
    methods(source);
    room();
    System.out.println(wrong == 0 ? "the language is kept" : wrong + " faults");
    if (wrong > 0) {
      System.exit(1);
    }
  }

  private static void fault(String what) {
    wrong++;
    System.out.println(what);
  }

  private static void face(String source) {
    Class<?> face = HangsTogether.class;
    Set<String> names = new TreeSet<>();
    for (String method : FACE) {
      names.add(method.substring(method.lastIndexOf(' ', method.indexOf('(')) + 1, method.indexOf('(')));
      if (!source.contains("    " + method + " {")) {
        fault("lacks: " + method);
      }
    }
    int open = 0;
    for (Method method : face.getDeclaredMethods()) {
      if (!Modifier.isPrivate(method.getModifiers())) {
        open++;
      } else if (names.contains(method.getName())) {
        fault("a private method bears the name of a public one: " + method);
      }
    }
    if (open != FACE.length) {
      fault("the face has " + open + " methods");
    }
    for (Field field : face.getDeclaredFields()) {
      field(field);
    }
    for (Constructor<?> constructor : face.getDeclaredConstructors()) {
      if (constructor.getParameterCount() != 0 || !Modifier.isPublic(constructor.getModifiers())) {
        fault("another constructor: " + constructor);
      }
    }
    Class<?>[] inside = face.getDeclaredClasses();
    if (inside.length > 11) {
      fault("too many classes: " + inside.length);
    }
    for (Class<?> one : inside) {
      for (Method method : one.getDeclaredMethods()) {
        if (names.contains(method.getName())) {
          fault("a method inside bears the name of a public one: " + method);
        }
      }
    }
  }

  private static void field(Field field) {
    int modifiers = field.getModifiers();
    if (!Modifier.isPrivate(modifiers)) {
      fault("a field that can be seen: " + field);
    }
    if (Modifier.isStatic(modifiers) && !Modifier.isFinal(modifiers)) {
      fault("static state: " + field);
    }
  }

  private static void members(Class<?> inside) {
    if (!Modifier.isStatic(inside.getModifiers())) {
      fault("not static: " + inside);
    }
    int fields = 0;
    for (Field field : inside.getDeclaredFields()) {
      field(field);
      fields += Modifier.isStatic(field.getModifiers()) ? 0 : 1;
    }
    if (fields > 20) {
      fault("too many fields: " + inside);
    }
  }

  private static String withoutComments(String source) {
    return source.replaceAll("(?s)/\\*.*?\\*/", " ").replaceAll("//[^\n]*", " ");
  }

  private static void words(String code) {
    String[] out = {"import", "package", "throw", "throws", "try", "catch", "finally", "synchronized", "assert",
        "volatile", "native", "transient", "strictfp", "System", "Thread", "Random", "Object", "Exception",
        "double", "float", "protected", "var", "String"};
    for (String word : out) {
      if (Pattern.compile("\\b" + word + "\\b").matcher(code).find()) {
        fault("a word that is out: " + word);
      }
    }
    if (code.contains("->") || code.contains("::") || code.contains("Exact(")) {
      fault("a lambda, a method reference or an Exact function");
    }
    if (!code.chars().allMatch(letter -> letter < 128)) {
      fault("a sign beyond 127");
    }
    if (Pattern.compile("\\bstatic\\s*\\{").matcher(code).find()) {
      fault("a static initialiser");
    }
    Matcher loops = Pattern.compile("while \\(true\\)|for \\(;;|for \\([^;]*; *;").matcher(code);
    if (loops.find()) {
      fault("a loop without an end: " + loops.group());
    }
  }

  /** Methods start and end at a line's own indent, so they can be measured line by line. */
  private static void methods(String source) {
    Matcher heads = Pattern.compile("(?m)^( {4}| {8})(?:public|private)[^=;\n]*\\(([^)]*)\\) \\{$").matcher(source);
    int seen = 0;
    while (heads.find()) {
      seen++;
      int end = source.indexOf("\n" + heads.group(1) + "}", heads.end());
      long lines = source.substring(heads.start(), end).lines().count() + 1;
      if (lines > 60) {
        fault(lines + " lines: " + heads.group());
      }
      if (heads.group(2).split(",").length > 7) {
        fault("too many parameters: " + heads.group());
      }
    }
    if (seen < 100) {
      fault("only " + seen + " methods were measured");
    }
  }

  /** The rows are made with the object; 512 of the dearest calls make next to nothing more. */
  private static void room() {
    com.sun.management.ThreadMXBean threads =
        (com.sun.management.ThreadMXBean) java.lang.management.ManagementFactory.getThreadMXBean();
    useAll(new HangsTogether());
    long start = threads.getCurrentThreadAllocatedBytes();
    HangsTogether x = new HangsTogether();
    long made = threads.getCurrentThreadAllocatedBytes() - start;
    useAll(x);
    long used = threads.getCurrentThreadAllocatedBytes() - start - made;
    if (made > 40000) {
      fault("an object takes " + made + " bytes");
    }
    if (used > 2000) {
      fault("calls take " + used + " bytes");
    }
  }

  private static void useAll(HangsTogether x) {
    tell(x, "h5;l00111,1;l01221,1;l02331,1;l33411,1;l44011,1;l50211,1;l01311,1;");
    tell(x, "l02411,1;l03011,1;l04111,1;");
    for (int i = 0; i < 12; i++) {
      x.rule(i % 10, i % 3);
      x.cheap(i, 0);
      x.likely(i, 0);
      x.pair(0, i, 1);
      x.less(0, i);
      x.toward(i % 5, 1);
      x.forests(i);
      x.ploughs(i);
      x.hard(0, i % 5, 0);
      x.more(0, i % 5, 0);
      x.holds(0);
      x.plan(i, 0);
      x.often(i % 6, 0, 30, i);
      x.step(x.way(0), x.way(i));
      x.row(i);
      x.judge();
      x.image();
      x.takeUp();
      x.restore();
    }
  }

  private static void tell(HangsTogether x, String text) {
    for (int i = 0; i < text.length(); i++) {
      x.feed(text.charAt(i));
    }
    x.village();
  }
}
