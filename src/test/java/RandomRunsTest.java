import java.util.Random;

/** Many runs of calls, made by a fixed seed, on the class and on the oracle at once. */
public final class RandomRunsTest {
  private static final int RUNS = 700;
  private static final int STEPS = 60;
  private final Random random;
  private final HangsTogether x = new HangsTogether();
  private final Oracle due = new Oracle();
  private final StringBuilder told = new StringBuilder();
  private int calls = 0;
  private boolean wrong = false;

  private RandomRunsTest(long seed) {
    random = new Random(seed);
  }

  public static void main(String[] args) {
    int wrongs = 0;
    long calls = 0;
    for (int run = 0; run < RUNS && wrongs < 5; run++) {
      RandomRunsTest test = new RandomRunsTest(run);
      test.go(run);
      calls += test.calls;
      wrongs += test.wrong ? 1 : 0;
    }
    System.out.println(calls + " calls, " + wrongs + " runs wrong");
    if (wrongs > 0) {
      System.exit(1);
    }
  }

  private void go(int run) {
    tellVillage(2 + random.nextInt(6), random.nextInt(11), run % 4);
    for (int step = 0; step < STEPS && !wrong && calls < 420; step++) {
      change();
      ask();
    }
    for (int what = -1; what < 18 && !wrong; what++) {
      same("count " + what, x.count(what), due.count(what));
    }
    if (wrong) {
      System.out.println("run " + run + ": " + told);
    }
  }

  private void same(String call, long got, long want) {
    calls++;
    told.append(call).append(" -> ").append(got).append('\n');
    if (got != want && !wrong) {
      wrong = true;
      told.append("   due is ").append(want).append('\n');
    }
  }

  private void feedAll(String text) {
    for (int i = 0; i < text.length(); i++) {
      int letter = text.charAt(i);
      same("feed " + text.charAt(i), x.feed(letter), due.feed(letter));
    }
  }

  private void tell(String text) {
    feedAll(text);
    same("village", x.village(), due.village());
  }

  private void tellVillage(int houses, int lanes, int style) {
    String text = "h" + houses + ";";
    for (int i = 0; i < lanes; i++) {
      String lane = laneText(houses, style);
      if (text.length() + lane.length() > 72) {
        tell(text);
        text = "";
      }
      text += lane;
    }
    tell(text);
  }

  /** Style 0: likely to hang; 1: anywhere; 2: costs much alike; 3: many ONE lanes. */
  private String laneText(int houses, int style) {
    int to = style == 0 ? 1 + due.count(1) % Math.max(1, houses - 1) : random.nextInt(houses);
    int from = (to + 1 + random.nextInt(houses - 1)) % houses;
    if (style == 0) {
      from = random.nextInt(to);
    }
    int kind = style == 3 && random.nextBoolean() ? 3 : random.nextInt(6);
    int cost = random.nextInt(style == 2 ? 2 : 100);
    int drift = random.nextInt(5) == 0 ? 99 * random.nextInt(2) : random.nextInt(100);
    return "l" + kind + from + to + (1 + random.nextInt(4)) + cost + "," + drift + ";";
  }

  private void change() {
    switch (random.nextInt(16)) {
      case 0, 1, 2, 3 -> {
        int lane = someLane();
        int as = random.nextInt(8) == 0 ? edge() : random.nextInt(3);
        same("rule " + lane + " " + as, x.rule(lane, as), due.rule(lane, as));
      }
      case 4 -> same("takeUp", x.takeUp(), due.takeUp());
      case 5 -> same("image", x.image(), due.image());
      case 6 -> same("restore", x.restore(), due.restore());
      case 7 -> tell(laneText(Math.max(2, due.count(0)), random.nextInt(4)));
      case 8 -> tell(spoilt());
      case 9, 10 -> {
        int lane = random.nextInt(10) == 0 ? edge() : random.nextInt(Math.max(1, due.count(1) + 1));
        same("row " + lane, x.row(lane), due.row(lane));
      }
      case 11 -> rowOfAWay();
      case 12 -> same("judge", x.judge(), due.judge());
      case 13 -> {
        int letter = edge();
        same("feed " + letter, x.feed(letter), due.feed(letter));
      }
      default -> { }
    }
  }

  /** Statements, one letter of which may be another, or lack. */
  private String spoilt() {
    StringBuilder text = new StringBuilder();
    int statements = random.nextInt(4);
    for (int i = 0; i < statements; i++) {
      text.append(switch (random.nextInt(3)) {
        case 0 -> "h" + random.nextInt(10) + ";";
        case 1 -> "kxf".charAt(random.nextInt(3)) + "" + random.nextInt(10) + ";";
        default -> "l" + random.nextInt(7) + random.nextInt(7) + random.nextInt(7)
            + random.nextInt(6) + random.nextInt(100) + "," + random.nextInt(100) + ";";
      });
    }
    if (text.length() > 0 && random.nextBoolean()) {
      int place = random.nextInt(text.length());
      if (random.nextBoolean()) {
        text.deleteCharAt(place);
      } else {
        text.setCharAt(place, "hlkxf;,0189/:Z".charAt(random.nextInt(14)));
      }
    }
    return text.toString();
  }

  private void rowOfAWay() {
    int way = due.way(random.nextInt(Math.max(1, due.many())));
    for (int lane = 0; lane < 10 && way >= 0; lane++) {
      if ((way >> lane & 1) != 0) {
        same("row " + lane, x.row(lane), due.row(lane));
      }
    }
  }

  private int edge() {
    int[] edges = {Integer.MIN_VALUE, -1000, -10, -2, -1, 0, 1, 2, 3, 5, 6, 7, 8, 9, 10, 11, 16, 30,
        31, 32, 33, 71, 72, 255, 256, 1023, 1024, Integer.MAX_VALUE};
    return edges[random.nextInt(edges.length)];
  }

  private int someLane() {
    return random.nextInt(12) == 0 ? edge() : random.nextInt(Math.max(1, due.count(1)));
  }

  private int someHouse() {
    return random.nextInt(12) == 0 ? edge() : random.nextInt(due.count(0));
  }

  private int somePart() {
    return random.nextInt(12) == 0 ? edge() : random.nextInt(2);
  }

  private int someSet() {
    int many = due.many();
    if (many > 0 && random.nextInt(4) != 0) {
      return due.way(random.nextInt(many));
    }
    return random.nextInt(8) == 0 ? edge() : random.nextInt(1 << due.count(1));
  }

  private int someNumber() {
    return random.nextInt(8) == 0 ? edge() : random.nextInt(due.many() + 2);
  }

  private void ask() {
    switch (random.nextInt(4)) {
      case 0 -> askOfSets();
      case 1 -> askOfWays();
      case 2 -> askOfHouses();
      default -> askDrawers();
    }
  }

  private void askOfSets() {
    int one = someSet();
    int other = someSet();
    same("is " + one, x.is(one), due.is(one));
    same("hangs " + one, x.hangs(one), due.hangs(one));
    same("parts " + one, x.parts(one), due.parts(one));
    same("nights " + one + " " + other, x.nights(one, other), due.nights(one, other));
    same("step " + one + " " + other, x.step(one, other), due.step(one, other));
    int lane = someLane();
    int what = random.nextInt(8) == 0 ? edge() : random.nextInt(7);
    same("lane " + lane + " " + what, x.lane(lane, what), due.lane(lane, what));
    int counted = edge();
    same("count " + counted, x.count(counted), due.count(counted));
  }

  private void askOfWays() {
    int one = someLane();
    int other = someLane();
    int part = somePart();
    same("many", x.many(), due.many());
    same("sum", x.sum(), due.sum());
    int i = someNumber();
    same("way " + i, x.way(i), due.way(i));
    same("likely " + one + " " + part, x.likely(one, part), due.likely(one, part));
    same("pair " + one + " " + other + " " + part, x.pair(one, other, part), due.pair(one, other, part));
    same("less " + one + " " + other, x.less(one, other), due.less(one, other));
    same("inAll", x.inAll(), due.inAll());
    same("inNone", x.inNone(), due.inNone());
    int j = someNumber();
    same("cheap " + j + " " + part, x.cheap(j, part), due.cheap(j, part));
  }

  private void askOfHouses() {
    int one = someHouse();
    int other = someHouse();
    int part = somePart();
    int k = random.nextInt(8) == 0 ? edge() : 1 + random.nextInt(10);
    int houses = random.nextInt(8) == 0 ? edge() : random.nextInt(1 << due.count(0));
    same("toward " + one + " " + part, x.toward(one, part), due.toward(one, part));
    same("forests " + k, x.forests(k), due.forests(k));
    same("ploughs " + houses, x.ploughs(houses), due.ploughs(houses));
    same("hard " + one + " " + other + " " + part, x.hard(one, other, part), due.hard(one, other, part));
    same("more " + one + " " + other + " " + part, x.more(one, other, part), due.more(one, other, part));
    same("holds " + part, x.holds(part), due.holds(part));
    if (random.nextInt(3) == 0) {
      same("plan " + k + " " + part, x.plan(k, part), due.plan(k, part));
    }
  }

  private void askDrawers() {
    int drawer = random.nextInt(12) == 0 ? edge() : random.nextInt(6);
    int z = random.nextInt(8) == 0 ? edge() : random.nextInt();
    int lane = someLane();
    int n = random.nextInt(6) == 0 ? edge() : 1 + random.nextInt(30);
    same("draw " + drawer + " " + z, x.draw(drawer, z), due.draw(drawer, z));
    same("often " + drawer + " " + lane + " " + n + " " + z, x.often(drawer, lane, n, z),
        due.often(drawer, lane, n, z));
  }
}
