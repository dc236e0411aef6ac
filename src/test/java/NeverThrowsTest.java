import java.lang.reflect.Method;
import java.util.ArrayList;
import java.util.Comparator;
import java.util.List;
import java.util.Random;

/** Calls of all methods with wild arguments in all kinds of states, far beyond 512 of them too. */
public final class NeverThrowsTest {
  private static final int OBJECTS = 300;
  private static final int CALLS = 3000;
  private static final int[] EDGES = {Integer.MIN_VALUE, Integer.MIN_VALUE + 1, -65536, -1024, -33, -32, -31,
      -10, -9, -6, -2, -1, 0, 1, 2, 3, 4, 5, 6, 7, 8, 9, 10, 11, 12, 15, 16, 30, 31, 32, 33, 63, 64, 71, 72,
      127, 128, 252, 253, 255, 256, 511, 512, 1023, 1024, 65535, Integer.MAX_VALUE - 1, Integer.MAX_VALUE};

  public static void main(String[] args) throws Exception {
    List<Method> methods = new ArrayList<>();
    for (Method method : HangsTogether.class.getDeclaredMethods()) {
      if (java.lang.reflect.Modifier.isPublic(method.getModifiers())) {
        methods.add(method);
      }
    }
    methods.sort(Comparator.comparing(Method::getName));
    for (int i = 0; i < OBJECTS; i++) {
      runWild(new Random(i), methods);
    }
    System.out.println(OBJECTS * CALLS + " wild calls, none threw");
  }

  private static void runWild(Random random, List<Method> methods) throws Exception {
    HangsTogether x = new HangsTogether();
    for (int call = 0; call < CALLS; call++) {
      if (random.nextInt(30) == 0) {
        tellSome(x, random);
      }
      Method method = methods.get(random.nextInt(methods.size()));
      if (method.getName().equals("takeUp") && random.nextInt(4) != 0) {
        continue;
      }
      Object[] arguments = new Object[method.getParameterCount()];
      for (int i = 0; i < arguments.length; i++) {
        arguments[i] = random.nextInt(3) == 0 ? random.nextInt(12) : EDGES[random.nextInt(EDGES.length)];
      }
      method.invoke(x, arguments);
    }
  }

  private static void tellSome(HangsTogether x, Random random) {
    x.village();
    String text = random.nextInt(6) == 0 ? "h" + random.nextInt(9) + ";" : "";
    int statements = 1 + random.nextInt(4);
    int houses = x.count(0);
    for (int i = 0; i < statements; i++) {
      text += "l" + random.nextInt(6) + random.nextInt(houses) + random.nextInt(houses)
          + (1 + random.nextInt(4)) + random.nextInt(100) + "," + random.nextInt(100) + ";";
    }
    for (int i = 0; i < text.length(); i++) {
      x.feed(random.nextInt(300) == 0 ? random.nextInt(256) : text.charAt(i));
    }
    x.village();
  }
}
