import java.math.BigInteger;

/** What the document says of the edges of drawers and of the row: promises 28 to 31. */
final class EdgesOfDrawers {
  private static final int LEAST = Integer.MIN_VALUE;
  private static final int GREATEST = Integer.MAX_VALUE;
  private static final int WALK = 0;
  private static final int STEP = 1;
  private static final int CHEAP = 2;
  private static final int DEAR = 3;
  private static final int FAIR = 4;
  private static final int TOLD = 5;
  /** Ways 3 (worth 2, cost 12), 5 (worth 3, cost 11), 6 (worth 6, cost 13). */
  private static final String TRIANGLE = "l00115,10;l01227,20;l00236,5;";
  private static final int[] WAYS_OF_TRIANGLE = {3, 5, 6};
  /** A seed is looked for among so many; each that is needed is found far earlier. */
  private static final int SEEDS = 1000000;

  private EdgesOfDrawers() {
  }

  static void run() {
    draws();
    noWay();
    walk();
    walkByWeights();
    walkMatters();
    walkWhereNoneGoesOn();
    walk200();
    step();
    stepByWorth();
    stepWithoutDraws();
    cheapAndDear();
    fair();
    told();
    drawRefused();
    often();
    oftenGoesOn();
    oftenNone();
    oftenRefused();
    row();
    rowRefused();
    judgedPlaces();
    judgedHowMany();
    rowHasNone();
  }

  /** The document's draws, by numbers that never wrap. */
  private static final class Draws {
    private static final BigInteger TWO_TO_32 = BigInteger.ONE.shiftLeft(32);
    private BigInteger z;

    Draws(int seed) {
      z = BigInteger.valueOf(seed).mod(TWO_TO_32);
    }

    int below(int n) {
      z = z.multiply(BigInteger.valueOf(1103515245)).add(BigInteger.valueOf(12345)).mod(TWO_TO_32);
      return z.mod(BigInteger.ONE.shiftLeft(31)).shiftRight(16).mod(BigInteger.valueOf(n)).intValueExact();
    }
  }

  private static void draws() {
    Due.sentence(Due.TERMS, "DRAWS: z becomes z times 1103515245 and 12345 (an int); a DRAW below n is (z without its sign's bit by 65536, cut) modulo n.");
    // Ten ways of one lane each: FAIR tells the draw below ten.
    HangsTogether x = Due.of("h2;", "l00111,1;", 10);
    Due.is("z 0 becomes 12345, which is below 65536", x.draw(FAIR, 0), 1);
    Due.is("z 1 becomes 1103527590: 16838", x.draw(FAIR, 1), 1 << 8);
    Due.is("z -1 becomes -1103502900: 15929", x.draw(FAIR, -1), 1 << 9);
    Due.is("the greatest becomes 1043980748: 15929", x.draw(FAIR, GREATEST), 1 << 9);
    Due.is("the least becomes 12345 less 2147483648: 0", x.draw(FAIR, LEAST), 1);
    int[] seeds = {2, 3, -2, -3, 65535, 65536, -65536, 1103515245, -1103515245, 123456789, LEAST + 1, GREATEST - 1};
    for (int z : seeds) {
      Due.is("z " + z, x.draw(FAIR, z), 1 << new Draws(z).below(10));
    }
    Due.is("a draw changes nothing for the next one", x.draw(FAIR, 1), 1 << 8);
  }

  private static void noWay() {
    Due.sentence(Due.TERMS, "each makes a WAY with a seed z (-9: it makes none)");
    String[] villages = {"h3;", "h4;" + TRIANGLE, TRIANGLE + "x0;x1;"};
    for (String village : villages) {
      HangsTogether x = Due.of(village);
      for (int drawer = WALK; drawer <= TOLD; drawer++) {
        Due.is("drawer " + drawer + " of " + village, x.draw(drawer, 7), -9);
      }
      Due.is("-9 is no refusal", Due.refusals(x), 0);
    }
    HangsTogether one = Due.of("h2;l00111,1;");
    one.row(0);
    int[] seeds = {LEAST, -1, 0, 1, GREATEST};
    for (int drawer = WALK; drawer <= TOLD; drawer++) {
      for (int z : seeds) {
        Due.is("drawer " + drawer + " makes the only way", one.draw(drawer, z), 1);
      }
    }
    Due.sentence(28, "What a DRAWER makes with a seed (bits); -9.");
    HangsTogether x = Due.of(TRIANGLE);
    for (int drawer = WALK; drawer <= FAIR; drawer++) {
      Due.is("drawer " + drawer + " makes a way", x.is(x.draw(drawer, 11)), 1);
    }
    Due.is("the row has none", x.draw(TOLD, 11), -9);
  }

  private static void walk() {
    Due.sentence(Due.TERMS, "WALK goes about from HOUSE 0");
    // From 0 goes only lane 0; from 1 also lane 1, from 2 also lane 2.
    HangsTogether row = Due.of("h4;l00111,1;l01211,1;l02311,1;");
    for (int z = 0; z < 8; z++) {
      Due.is("along the row", row.draw(WALK, z), 7);
    }
    Due.is("not from house 1", Due.of("l31011,1;l01211,1;").draw(WALK, 1), -9);
    Due.sentence(Due.TERMS, "whenever it comes to a HOUSE for the first time it keeps that LANE; till it was in all");
    HangsTogether twice = Due.of("h2;l00111,1;l00111,1;");
    for (int z = 0; z < 8; z++) {
      Due.is("one of two", twice.draw(WALK, z), 1 << new Draws(z).below(2));
    }
  }

  private static void walkByWeights() {
    Due.sentence(Due.TERMS, "by a DRAW below all their WEIGHTS, as they come");
    // Weights 2, 9 and 1 of twelve.
    HangsTogether x = Due.of("h2;l00121,1;l50141,1;l00111,1;");
    int[] lanes = {0, 0, 1, 1, 1, 1, 1, 1, 1, 1, 1, 2};
    for (int drawn = 0; drawn < 12; drawn++) {
      Due.is("draw " + drawn + " of 12", x.draw(WALK, seedOf(12, drawn)), 1 << lanes[drawn]);
    }
    x.rule(1, 2);
    Due.is("draw 1 of 3, as one is barred", x.draw(WALK, seedOf(3, 1)), 1);
    Due.is("draw 2 of 3, as one is barred", x.draw(WALK, seedOf(3, 2)), 4);
  }

  /** A seed whose first draw below n is this one. */
  private static int seedOf(int n, int drawn) {
    for (int z = 1; z < SEEDS; z++) {
      if (new Draws(z).below(n) == drawn) {
        return z;
      }
    }
    Due.is("a seed for " + drawn + " of " + n, 0, 1);
    return 0;
  }

  private static void walkMatters() {
    Due.sentence(Due.TERMS, "by a LANE that is not BARRED from where it is (ONE only from FROM)");
    HangsTogether one = Due.of("h2;l30111,1;l31011,1;");
    for (int z = 0; z < 8; z++) {
      Due.is("not against ONE", one.draw(WALK, z), 1);
    }
    one.rule(0, 2);
    Due.is("only against ONE", one.draw(WALK, 1), -9);
    one.rule(0, 0);
    one.rule(1, 2);
    Due.is("barred", one.draw(WALK, 1), 1);
    Due.sentence(Due.TERMS, "MUST does not matter.");
    HangsTogether must = Due.of("h2;l00111,1;l00111,1;k0;k1;");
    Due.is("no way", must.many(), 0);
    Due.is("but a walk", must.draw(WALK, seedOf(2, 0)), 1);
    Due.is("but a walk", must.draw(WALK, seedOf(2, 1)), 2);
  }

  private static void walkWhereNoneGoesOn() {
    Due.sentence(Due.TERMS, "(then none; also where no LANE goes on)");
    Due.is("no lanes at all", Due.of("h2;").draw(WALK, 1), -9);
    Due.is("no lane from 0", Due.of("l01211,1;").draw(WALK, 1), -9);
    Due.is("a barred one from 0", Due.of("h2;l00111,1;x0;").draw(WALK, 1), -9);
    Due.is("no lane from 1", Due.of("l30111,1;l00211,1;x1;").draw(WALK, 1), -9);
    HangsTogether end = Due.of("l30111,1;l31211,1;");
    Due.is("none needed from the last house", end.draw(WALK, 1), 3);
    Due.is("to and fro, never to house 2", Due.of("l00111,1;").draw(WALK, 1), -9);
  }

  /** Three houses in a ring of weight 9 each, and the fourth by a lane of weight 1 from the third. */
  private static void walk200() {
    Due.sentence(Due.TERMS, "200 LANES at most");
    HangsTogether x = Due.of("h4;l50141,1;l51241,1;l52041,1;l02311,1;");
    for (int lanes = 198; lanes <= 203; lanes++) {
      int z = seedOfWalk(lanes);
      int made = x.draw(WALK, z);
      Due.is("there with lane " + lanes, lanes <= 200 ? x.is(made) : made, lanes <= 200 ? 1 : -9);
    }
  }

  private static int seedOfWalk(int lanes) {
    for (int z = 1; z < SEEDS; z++) {
      if (lanesWalked(z, lanes + 1) == lanes) {
        return z;
      }
    }
    Due.is("a seed for " + lanes + " lanes", 0, 1);
    return 0;
  }

  private static int lanesWalked(int z, int most) {
    Draws draws = new Draws(z);
    int at = 0;
    int gone = 0;
    while (at < 3 && gone < most) {
      int drawn = draws.below(at == 2 ? 19 : 18);
      gone++;
      // The lanes of 0 are 0-1, 2-0; those of 1 are 0-1, 1-2; those of 2 are 1-2, 2-0, 2-3.
      int[] next = at == 0 ? new int[] {1, 2} : at == 1 ? new int[] {0, 2} : new int[] {1, 0, 3};
      at = next[drawn / 9];
    }
    return gone;
  }

  private static void step() {
    Due.sentence(Due.TERMS, "each is kept, if it is in all WAYS that have what was kept and have not what was left so far, left, if in none");
    int[] seeds = {LEAST, -1, 0, 1, 2, 3, GREATEST};
    for (int z : seeds) {
      Due.is("the only way", Due.of(TRIANGLE + "k0;k1;").draw(STEP, z), 3);
      Due.is("the only way", Due.of(TRIANGLE + "x0;").draw(STEP, z), 6);
      Due.is("all must be kept", Due.of("l00111,1;l01211,1;").draw(STEP, z), 3);
    }
  }

  private static void stepByWorth() {
    Due.sentence(Due.TERMS, "else a DRAW below the SUM of these WAYS is below the SUM of those of them that have it: kept; else left");
    HangsTogether x = Due.of(TRIANGLE);
    // Lane 0 is in ways of 5 of 11; then lane 1 in 2 of these 5; without lane 0 one way is left.
    for (int drawn = 0; drawn < 11; drawn++) {
      int z = seedOf(11, drawn);
      Draws draws = new Draws(z);
      draws.below(11);
      int due = drawn >= 5 ? 6 : draws.below(5) < 2 ? 3 : 5;
      Due.is("draw " + drawn + " of 11", x.draw(STEP, z), due);
    }
    for (int drawn = 0; drawn < 5; drawn++) {
      Due.is("then draw " + drawn + " of 5", x.draw(STEP, seedOfTwo(drawn)), drawn < 2 ? 3 : 5);
    }
  }

  /** A seed that keeps lane 0 of the triangle and whose second draw is this one. */
  private static int seedOfTwo(int drawn) {
    for (int z = 1; z < SEEDS; z++) {
      Draws draws = new Draws(z);
      if (draws.below(11) < 5 && draws.below(5) == drawn) {
        return z;
      }
    }
    Due.is("a seed for " + drawn + " of 5", 0, 1);
    return 0;
  }

  /** The lane to house 3 comes first and is in all ways, that to house 4 last: neither takes a draw. */
  private static void stepWithoutDraws() {
    Due.sentence(Due.TERMS, "STEP: LANES as they come");
    HangsTogether x = Due.of("h5;l00311,1;l00111,1;l00121,1;l01211,1;l01231,1;", "l00111,1;l03411,1;x5;");
    for (int z = 0; z < 30; z++) {
      Draws draws = new Draws(z);
      int first = draws.below(12) < 4 ? 2 : 4;
      int second = draws.below(first == 2 ? 4 : 8) < (first == 2 ? 1 : 2) ? 8 : 16;
      Due.is("z " + z, x.draw(STEP, z), 1 + first + second + 64);
    }
  }

  private static void cheapAndDear() {
    Due.sentence(Due.TERMS, "CHEAP the CHEAPEST; DEAR the one of most COST, of several the least as bits");
    HangsTogether x = Due.of(TRIANGLE);
    int[] seeds = {LEAST, -1, 0, 1, GREATEST};
    for (int z : seeds) {
      Due.is("CHEAP", x.draw(CHEAP, z), 5);
      Due.is("DEAR", x.draw(DEAR, z), 6);
    }
    HangsTogether alike = Due.of("l00115,10;l01225,20;l00235,5;");
    Due.is("CHEAP of several", alike.draw(CHEAP, 1), 3);
    Due.is("DEAR of several", alike.draw(DEAR, 1), 3);
    HangsTogether two = Due.of("h2;l00119,1;l00113,1;l00119,1;l00113,1;");
    Due.is("CHEAP of two and two", two.draw(CHEAP, 1), 2);
    Due.is("DEAR of two and two", two.draw(DEAR, 1), 1);
    HangsTogether free = Due.of("h2;l00110,1;l00110,1;");
    Due.is("DEAR without costs", free.draw(DEAR, 1), 1);
  }

  private static void fair() {
    Due.sentence(Due.TERMS, "FAIR a WAY by one DRAW below MANY, by its number");
    HangsTogether x = Due.of(TRIANGLE);
    for (int drawn = 0; drawn < 3; drawn++) {
      Due.is("draw " + drawn + " of 3", x.draw(FAIR, seedOf(3, drawn)), WAYS_OF_TRIANGLE[drawn]);
    }
    x.rule(0, 1);
    for (int drawn = 0; drawn < 2; drawn++) {
      Due.is("draw " + drawn + " of 2", x.draw(FAIR, seedOf(2, drawn)), WAYS_OF_TRIANGLE[drawn]);
    }
  }

  private static void told() {
    Due.sentence(Due.TERMS, "TOLD the ROW's LANES, if these are a WAY.");
    HangsTogether x = Due.of("h4;" + TRIANGLE + "l00311,1;l00311,1;");
    Due.is("the row has none", x.draw(TOLD, 1), -9);
    x.row(3);
    x.row(2);
    Due.is("they do not join all", x.draw(TOLD, 1), -9);
    x.row(1);
    Due.is("a way, whatever their order", x.draw(TOLD, 1), 14);
    x.rule(0, 1);
    Due.is("one that must be kept lacks", x.draw(TOLD, 1), -9);
    x.rule(0, 0);
    x.rule(2, 2);
    Due.is("one is barred", x.draw(TOLD, 1), -9);
    x.rule(2, 0);
    Due.is("the row stays", x.draw(TOLD, 1) * 10 + x.count(6), 143);
    x.row(4);
    Due.is("a ring", x.draw(TOLD, 1), -9);
    HangsTogether y = Due.of("h2;l00111,1;");
    y.row(0);
    y.row(9);
    Due.is("no such lane", y.draw(TOLD, 1), -9);
    y.judge();
    Due.is("the row has none", y.draw(TOLD, 1), -9);
    HangsTogether full = Due.of("h2;", "l00111,1;", 10);
    full.row(9);
    Due.is("the tenth lane", full.draw(TOLD, 1), 512);
  }

  private static void drawRefused() {
    Due.sentence(28, "-2.");
    HangsTogether x = Due.of(TRIANGLE);
    int[] none = {-1, 6, LEAST, GREATEST};
    for (int drawer : none) {
      Due.is("drawer " + drawer, x.draw(drawer, 1), -2);
    }
    Due.is("-2s", x.count(12), 4);
    Due.is("drawer 0", x.is(x.draw(0, 1)), 1);
    Due.is("drawer 5", x.draw(5, 1), -9);
  }

  private static void often() {
    Due.sentence(29, "How many of n (1 .. 30) WAYS that a DRAWER makes one behind the other have a LANE");
    HangsTogether x = Due.of(TRIANGLE);
    Due.is("one of one", x.often(CHEAP, 0, 1, 1), 1);
    Due.is("none of one", x.often(CHEAP, 1, 1, 1), 0);
    Due.is("thirty of thirty", x.often(CHEAP, 2, 30, 1), 30);
    Due.is("none of thirty", x.often(DEAR, 0, 30, 1), 0);
    Due.is("29 of 29", x.often(DEAR, 1, 29, GREATEST), 29);
    x.row(0);
    x.row(1);
    Due.is("TOLD", x.often(TOLD, 1, 30, 1) * 100 + x.often(TOLD, 2, 30, 1), 3000);
    Due.is("the row stays", x.count(6), 2);
  }

  private static void oftenGoesOn() {
    Due.sentence(29, "(z goes on;");
    HangsTogether x = Due.of(TRIANGLE);
    int[] seeds = {LEAST, -1, 0, 1, 77, GREATEST};
    int[] numbers = {1, 2, 29, 30};
    for (int z : seeds) {
      for (int n : numbers) {
        for (int lane = 0; lane < 3; lane++) {
          Due.is("FAIR, lane " + lane + ", " + n + " of z " + z, x.often(FAIR, lane, n, z), fairOften(lane, n, z));
        }
        Due.is("STEP, lane 0, " + n + " of z " + z, x.often(STEP, 0, n, z), stepOften(n, z));
      }
    }
    HangsTogether two = Due.of("h2;l00121,1;l50141,1;l00111,1;");
    for (int z : seeds) {
      Due.is("WALK of z " + z, two.often(WALK, 1, 30, z), walkOften(z));
    }
  }

  private static int fairOften(int lane, int n, int z) {
    Draws draws = new Draws(z);
    int had = 0;
    for (int i = 0; i < n; i++) {
      had += WAYS_OF_TRIANGLE[draws.below(3)] >> lane & 1;
    }
    return had;
  }

  /** Lane 0 is kept by the first draw; only then a second draw is needed. */
  private static int stepOften(int n, int z) {
    Draws draws = new Draws(z);
    int had = 0;
    for (int i = 0; i < n; i++) {
      if (draws.below(11) < 5) {
        had++;
        draws.below(5);
      }
    }
    return had;
  }

  private static int walkOften(int z) {
    Draws draws = new Draws(z);
    int had = 0;
    for (int i = 0; i < 30; i++) {
      int drawn = draws.below(12);
      had += drawn >= 2 && drawn < 11 ? 1 : 0;
    }
    return had;
  }

  private static void oftenNone() {
    Due.sentence(29, "those that are none count not)");
    HangsTogether end = Due.of("h4;l00111,1;l31211,1;l32311,1;l30311,1;x0;");
    Due.is("0-3 ends there, so all are none", end.often(WALK, 3, 30, 1), 0);
    Due.is("no way, lane 0", Due.of(TRIANGLE + "x0;x1;").often(STEP, 0, 30, 1), 0);
    Due.is("no way, the last lane", Due.of(TRIANGLE + "x0;x1;").often(FAIR, 2, 30, 1), 0);
    Due.is("no row", Due.of(TRIANGLE).often(TOLD, 0, 30, 1), 0);
    HangsTogether some = Due.of("l30111,1;l31211,1;l30211,1;");
    int[] seeds = {0, 1, 2, 3, -1};
    for (int z : seeds) {
      Due.is("those by 0-1-2, z " + z, some.often(WALK, 0, 30, z), walksOn(z));
      Due.is("those by 0-2 end there, z " + z, some.often(WALK, 2, 30, z), 0);
    }
  }

  /** A walk by 0-1 draws once more at 1; one by 0-2 is at its end. */
  private static int walksOn(int z) {
    Draws draws = new Draws(z);
    int had = 0;
    for (int i = 0; i < 30; i++) {
      if (draws.below(2) == 0) {
        had++;
        draws.below(1);
      }
    }
    return had;
  }

  private static void oftenRefused() {
    Due.sentence(29, "-2; -1; -4; -6 30.");
    HangsTogether x = Due.of(TRIANGLE);
    int[] noDrawers = {-1, 6, LEAST, GREATEST};
    int[] noLanes = {-1, 3, 32, LEAST, GREATEST};
    int[] low = {0, -1, LEAST};
    int[] high = {31, GREATEST};
    for (int drawer : noDrawers) {
      Due.is("drawer " + drawer, x.often(drawer, 0, 1, 1), -2);
      Due.is("drawer first", x.often(drawer, 3, 1, 1), -2);
      Due.is("drawer first", x.often(drawer, 0, 0, 1), -2);
      Due.is("drawer first", x.often(drawer, 0, 31, 1), -2);
    }
    for (int lane : noLanes) {
      Due.is("lane " + lane, x.often(0, lane, 1, 1), -1);
      Due.is("lane first", x.often(0, lane, 0, 1), -1);
      Due.is("lane first", x.often(0, lane, 31, 1), -1);
    }
    for (int n : low) {
      Due.is("n " + n, x.often(5, 2, n, 1), -4);
    }
    for (int n : high) {
      Due.is("n " + n, x.often(5, 2, n, 1), -6);
    }
    Due.is("-1s", x.count(11), 15);
    Due.is("-2s", x.count(12), 16);
    Due.is("-4s", x.count(14), 3);
    Due.is("-6s", x.count(16), 2);
    Due.is("no lanes", new HangsTogether().often(0, 0, 1, 1), -1);
  }

  private static void row() {
    Due.sentence(30, "A LANE more of the ROW: how many.");
    HangsTogether x = new HangsTogether();
    for (int i = 1; i <= 10; i++) {
      Due.is("lane " + (10 - i) + ", though it is not there", x.row(10 - i), i);
      Due.is("in the row", x.count(6), i);
    }
    Due.sentence(Due.TERMS, "A ROW of LANES (0 .. 9; 10 at most)");
    Due.is("the eleventh", x.row(0), -6);
    Due.is("in the row", x.count(6), 10);
    x.judge();
    Due.is("the first again", x.row(0), 1);
  }

  private static void rowRefused() {
    Due.sentence(30, "-4; -6 (9; 10, too).");
    HangsTogether x = Due.of("h2;l00111,1;");
    Due.is("-1", x.row(-1), -4);
    Due.is("the least", x.row(LEAST), -4);
    Due.is("10", x.row(10), -6);
    Due.is("the greatest", x.row(GREATEST), -6);
    Due.is("in the row", x.count(6), 0);
    Due.is("0", x.row(0), 1);
    Due.is("refused ones did not come", x.judge(), -9);
    for (int i = 1; i <= 10; i++) {
      x.row(9);
    }
    Due.is("9, the eleventh", x.row(9), -6);
    Due.is("10, the eleventh", x.row(10), -6);
    Due.is("-1, the eleventh", x.row(-1), -4);
    Due.is("-4s", x.count(14), 3);
    Due.is("-6s", x.count(16), 4);
  }

  private static int judge(HangsTogether x, int... lanes) {
    for (int lane : lanes) {
      x.row(lane);
    }
    return x.judge();
  }

  private static void judgedPlaces() {
    Due.sentence(Due.TERMS, "JUDGED: the place of the first that is no LANE, is BARRED, came already, or makes a ring with those ahead");
    HangsTogether x = Due.of("h4;" + TRIANGLE + "l00311,1;l00311,1;x4;");
    Due.is("no lane, the first", judge(x, 5), 0);
    Due.is("no lane, the farthest", judge(x, 9), 0);
    Due.is("no lane, the third", judge(x, 0, 1, 5), 2);
    Due.is("no lane behind a way", judge(x, 0, 1, 3, 5), 3);
    Due.is("barred, the first", judge(x, 4, 5), 0);
    Due.is("barred, the second", judge(x, 0, 4, 5), 1);
    Due.is("came already", judge(x, 0, 0), 1);
    Due.is("came already, not at once", judge(x, 0, 3, 0), 2);
    Due.is("a ring", judge(x, 0, 1, 2), 2);
    Due.is("a ring behind a way", judge(x, 0, 1, 3, 2), 3);
    Due.is("a ring of two", judge(Due.of("h2;l00111,1;l00111,1;"), 1, 0), 1);
    Due.is("of several the first", judge(x, 3, 4, 9, 3, 3), 1);
    Due.is("ten, wrong at last", judge(Due.of("h7;l00111,1;l01211,1;l02311,1;l03411,1;l04511,1;l05611,1;"),
        0, 1, 2, 3, 4, 5, 6, 6, 6, 6), 6);
  }

  private static void judgedHowMany() {
    Due.sentence(Due.TERMS, "else how many, if they do not join all HOUSES, or one that MUST be kept lacks; -9.");
    HangsTogether x = Due.of("h4;" + TRIANGLE + "l00311,1;l00311,1;");
    Due.is("none", judge(x), 0);
    Due.is("one", judge(x, 3), 1);
    Due.is("two", judge(x, 3, 0), 2);
    Due.is("a way", judge(x, 3, 0, 1), -9);
    Due.is("a way, in another order", judge(x, 1, 3, 0), -9);
    x.rule(2, 1);
    Due.is("one that must be kept lacks", judge(x, 3, 0, 1), 3);
    Due.is("it is there", judge(x, 3, 0, 2), -9);
    Due.is("one that must be kept makes a ring", judge(x, 0, 1, 2), 2);
    Due.is("no lanes are there", judge(new HangsTogether()), 0);
    HangsTogether seven = Due.of("h7;l00111,1;l01211,1;l02311,1;l03411,1;l04511,1;l05611,1;");
    Due.is("five of six", judge(seven, 5, 4, 3, 2, 1), 5);
    Due.is("six of six", judge(seven, 5, 4, 3, 2, 1, 0), -9);
    Due.is("-9 is no refusal", Due.refusals(x) + Due.refusals(seven), 0);
  }

  private static void rowHasNone() {
    Due.sentence(31, "JUDGED; -9 (the ROW has none then).");
    HangsTogether x = Due.of(TRIANGLE);
    int[][] rows = {{}, {0}, {9}, {0, 1}, {0, 0}};
    int[] answers = {0, 1, 0, -9, 1};
    for (int i = 0; i < rows.length; i++) {
      Due.is("row " + i, judge(x, rows[i]), answers[i]);
      Due.is("the row has none", x.count(6), 0);
      Due.is("none is judged", x.judge(), 0);
    }
    Due.is("the next row begins", x.row(0), 1);
  }
}
