import java.lang.reflect.Constructor;
import java.lang.reflect.Field;
import java.lang.reflect.Method;
import java.lang.reflect.Modifier;
import java.nio.file.Files;
import java.nio.file.Path;
import java.util.Map;
import java.util.Set;
import java.util.TreeMap;
import java.util.TreeSet;
import java.util.regex.Matcher;
import java.util.regex.Pattern;

/** What of ../shared/LANGUAGE.md can be seen by looking, and that a call makes no objects. */
public final class LanguageTest {
  private static final Path SOURCE = Path.of("src/main/java/HangsTogether.java");
  private static final Path DOCUMENT = Path.of("../shared/DOC.md");
  private static final int MOST_DEEP = 8;
  private static int wrong = 0;

  public static void main(String[] args) throws Exception {
    String source = Files.readString(SOURCE);
    face(source, Files.readString(DOCUMENT));
    words(withoutComments(source));
    for (Class<?> inside : HangsTogether.class.getDeclaredClasses()) {
      members(inside);
    }
    methods(source);
    calls(withoutComments(source));
    room();
    System.out.println(wrong == 0 ? "the language is kept" : wrong + " faults");
    if (wrong > 0) {
      System.exit(1);
    }
  }

  private static void fault(String what) {
    wrong++;
    System.out.println(what);
  }

  /** The face as the document tells it: each method's line without its ";", by the method's name. */
  private static Map<String, String> promisedFace(String document) {
    Map<String, String> face = new TreeMap<>();
    Matcher lines = Pattern.compile("(?m)^    (public (?:int|long) (\\w+)\\([^)]*\\));$").matcher(document);
    while (lines.find()) {
      face.put(lines.group(2), lines.group(1));
    }
    return face;
  }

  private static void face(String source, String document) {
    Class<?> face = HangsTogether.class;
    Map<String, String> promised = promisedFace(document);
    Set<String> names = promised.keySet();
    for (String method : promised.values()) {
      if (!source.contains("\n    " + method + " {")) {
        fault("lacks: " + method);
      }
    }
    if (!Modifier.isPublic(face.getModifiers()) || !Modifier.isFinal(face.getModifiers())) {
      fault("the class is not public and final");
    }
    int open = 0;
    for (Method method : face.getDeclaredMethods()) {
      if (!Modifier.isPrivate(method.getModifiers())) {
        open++;
      } else if (names.contains(method.getName())) {
        fault("a private method bears the name of a public one: " + method);
      }
    }
    if (open != promised.size() || open != 33) {
      fault("the face has " + open + " methods");
    }
    for (Field field : face.getDeclaredFields()) {
      field(field);
    }
    for (Constructor<?> constructor : face.getDeclaredConstructors()) {
      if (constructor.getParameterCount() != 0 || !Modifier.isPublic(constructor.getModifiers())) {
        fault("another constructor: " + constructor);
      }
    }
    Class<?>[] inside = face.getDeclaredClasses();
    if (inside.length > 11) {
      fault("too many classes: " + inside.length);
    }
    for (Class<?> one : inside) {
      for (Method method : one.getDeclaredMethods()) {
        if (names.contains(method.getName())) {
          fault("a method inside bears the name of a public one: " + method);
        }
      }
    }
  }

  private static void field(Field field) {
    int modifiers = field.getModifiers();
    if (!Modifier.isPrivate(modifiers)) {
      fault("a field that can be seen: " + field);
    }
    if (Modifier.isStatic(modifiers) && !Modifier.isFinal(modifiers)) {
      fault("static state: " + field);
    }
  }

  private static void members(Class<?> inside) {
    if (!Modifier.isStatic(inside.getModifiers())) {
      fault("not static: " + inside);
    }
    int fields = 0;
    for (Field field : inside.getDeclaredFields()) {
      field(field);
      fields += Modifier.isStatic(field.getModifiers()) ? 0 : 1;
    }
    if (fields > 20) {
      fault("too many fields: " + inside);
    }
  }

  private static String withoutComments(String source) {
    return source.replaceAll("(?s)/\\*.*?\\*/", " ").replaceAll("//[^\n]*", " ");
  }

  private static void words(String code) {
    String[] out = {"import", "package", "throw", "throws", "try", "catch", "finally", "synchronized", "assert",
        "volatile", "native", "transient", "strictfp", "System", "Thread", "Random", "Object", "Exception",
        "double", "float", "protected", "var", "String"};
    for (String word : out) {
      if (Pattern.compile("\\b" + word + "\\b").matcher(code).find()) {
        fault("a word that is out: " + word);
      }
    }
    if (code.contains("->") || code.contains("::") || code.contains("Exact(")) {
      fault("a lambda, a method reference or an Exact function");
    }
    if (!code.chars().allMatch(letter -> letter < 128)) {
      fault("a sign beyond 127");
    }
    if (Pattern.compile("\\bstatic\\s*\\{").matcher(code).find()) {
      fault("a static initialiser");
    }
    Matcher loops = Pattern.compile("while \\(true\\)|for \\(;;|for \\([^;]*; *;").matcher(code);
    if (loops.find()) {
      fault("a loop without an end: " + loops.group());
    }
  }

  /** Methods start and end at a line's own indent, so they can be measured line by line. */
  private static void methods(String source) {
    Matcher heads = Pattern.compile("(?m)^( {4}| {8})(?:public|private)[^=;\n]*\\(([^)]*)\\) \\{$").matcher(source);
    int seen = 0;
    while (heads.find()) {
      seen++;
      int end = source.indexOf("\n" + heads.group(1) + "}", heads.end());
      long lines = source.substring(heads.start(), end).lines().count() + 1;
      if (lines > 60) {
        fault(lines + " lines: " + heads.group());
      }
      if (heads.group(2).split(",").length > 7) {
        fault("too many parameters: " + heads.group());
      }
    }
    if (seen < 100) {
      fault("only " + seen + " methods were measured");
    }
  }

  /**
   * Which methods call which, by their names alone: methods of the same name in several classes are
   * taken as one, so that a chain can only come out longer than it is.
   */
  private static void calls(String code) {
    Map<String, Set<String>> called = new TreeMap<>();
    Matcher heads = Pattern.compile("(?m)^( {4}| {8})(?:public|private) [^=;\n]*?(\\w+)\\([^)]*\\) \\{$").matcher(code);
    while (heads.find()) {
      String body = code.substring(heads.end(), code.indexOf("\n" + heads.group(1) + "}", heads.end()));
      Set<String> names = called.computeIfAbsent(heads.group(2), name -> new TreeSet<>());
      Matcher calls = Pattern.compile("\\b(\\w+)\\(").matcher(body.replaceAll("\\b(Math|Integer)\\.\\w+", ""));
      while (calls.find()) {
        names.add(calls.group(1));
      }
    }
    if (called.size() < 100) {
      fault("only " + called.size() + " methods were looked at");
    }
    Set<String> used = new TreeSet<>();
    for (Set<String> names : called.values()) {
      used.addAll(names);
    }
    for (String name : called.keySet()) {
      int deep = deep(name, called, 0);
      if (deep > MOST_DEEP) {
        fault("calls go " + deep + " deep from " + name);
      }
    }
    for (Class<?> inside : HangsTogether.class.getDeclaredClasses()) {
      unused(inside, used);
    }
    unused(HangsTogether.class, used);
  }

  /** How many calls stand open at once below a method, itself too. */
  private static int deep(String name, Map<String, Set<String>> called, int above) {
    int deepest = 0;
    if (above <= 2 * MOST_DEEP) {
      for (String next : called.getOrDefault(name, Set.of())) {
        if (called.containsKey(next)) {
          deepest = Math.max(deepest, deep(next, called, above + 1));
        }
      }
    }
    return 1 + deepest;
  }

  private static void unused(Class<?> one, Set<String> used) {
    for (Method method : one.getDeclaredMethods()) {
      if (!Modifier.isPublic(method.getModifiers()) && !used.contains(method.getName())) {
        fault("nobody calls " + method);
      }
    }
  }

  /** The rows are made with the object; 512 of the dearest calls make next to nothing more. */
  private static void room() {
    com.sun.management.ThreadMXBean threads =
        (com.sun.management.ThreadMXBean) java.lang.management.ManagementFactory.getThreadMXBean();
    useAll(new HangsTogether());
    long start = threads.getCurrentThreadAllocatedBytes();
    HangsTogether x = new HangsTogether();
    long made = threads.getCurrentThreadAllocatedBytes() - start;
    useAll(x);
    long used = threads.getCurrentThreadAllocatedBytes() - start - made;
    if (made > 40000) {
      fault("an object takes " + made + " bytes");
    }
    if (used > 2000) {
      fault("calls take " + used + " bytes");
    }
  }

  private static void useAll(HangsTogether x) {
    tell(x, "h5;l00111,1;l01221,1;l02331,1;l33411,1;l44011,1;l50211,1;l01311,1;");
    tell(x, "l02411,1;l03011,1;l04111,1;");
    for (int i = 0; i < 12; i++) {
      x.rule(i % 10, i % 3);
      x.cheap(i, 0);
      x.likely(i, 0);
      x.pair(0, i, 1);
      x.less(0, i);
      x.toward(i % 5, 1);
      x.forests(i);
      x.ploughs(i);
      x.hard(0, i % 5, 0);
      x.more(0, i % 5, 0);
      x.holds(0);
      x.plan(i, 0);
      x.often(i % 6, 0, 30, i);
      x.step(x.way(0), x.way(i));
      x.row(i);
      x.judge();
      x.image();
      x.takeUp();
      x.restore();
    }
  }

  private static void tell(HangsTogether x, String text) {
    for (int i = 0; i < text.length(); i++) {
      x.feed(text.charAt(i));
    }
    x.village();
  }
}
