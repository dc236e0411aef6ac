/** What the document says of the edges of ways: promises 7 to 20. */
final class EdgesOfWays {
  private static final int LEAST = Integer.MIN_VALUE;
  private static final int GREATEST = Integer.MAX_VALUE;
  /** Ways 3 (worth 2, cost 12), 5 (worth 3, cost 11), 6 (worth 6, cost 13). */
  private static final String TRIANGLE = "l00115,10;l01227,20;l00236,5;";
  /** Two lanes from each house to the next: lane 2i and 2i + 1 are between house i and i + 1. */
  private static final String[] TWICE_SIX = {"h6;l00111,1;l00111,1;l01211,1;l01211,1;l02311,1;l02311,1;",
      "l03411,1;l03411,1;l04511,1;l04511,1;"};
  private static final int EVEN = 0b0101010101;
  private static final int ODD = 0b1010101010;

  private EdgesOfWays() {
  }

  static void run() {
    is();
    isByRules();
    hangs();
    parts();
    bitsThatAreNot();
    many();
    sum();
    way();
    likely();
    pair();
    less();
    refusedFractions();
    inAllAndNone();
    cheap();
    cheapRefused();
    nights();
    step();
    stepsLeadThere();
    notWays();
    oneMattersNot();
  }

  private static void is() {
    Due.sentence(7, "Whether LANES (bits) are a WAY: 1, 0.");
    HangsTogether none = new HangsTogether();
    Due.is("nothing", none.is(0), 0);
    HangsTogether two = Due.of("h2;l00111,1;l00111,1;");
    Due.is("nothing", two.is(0), 0);
    Due.is("one lane", two.is(1), 1);
    Due.is("the other", two.is(2), 1);
    Due.is("both are a ring", two.is(3), 0);
    HangsTogether seven = Due.of("h7;l00111,1;l01211,1;l02311,1;l03411,1;l04511,1;l05611,1;");
    Due.is("six lanes join seven houses", seven.is(63), 1);
    for (int lane = 0; lane < 6; lane++) {
      Due.is("without lane " + lane, seven.is(63 - (1 << lane)), 0);
    }
    HangsTogether one = Due.of("l31011,1;l32011,1;");
    Due.is("ONE joins either way", one.is(3), 1);
    Due.is("a ring and a house apart have as many lanes", Due.of("h4;" + TRIANGLE).is(7), 0);
    HangsTogether full = Due.of(TWICE_SIX);
    Due.is("all ten", full.is(1023), 0);
    Due.is("five of ten", full.is(ODD), 1);
  }

  private static void isByRules() {
    Due.sentence(Due.TERMS, "A WAY: LANES (bits) that join all HOUSES without a ring, with all that MUST be kept, without BARRED ones.");
    HangsTogether x = Due.of(TRIANGLE + "k2;");
    Due.is("what must be kept lacks", x.is(3), 0);
    Due.is("it is there", x.is(5) + x.is(6), 2);
    x.rule(1, 2);
    Due.is("a barred one", x.is(6), 0);
    Due.is("none barred", x.is(5), 1);
    HangsTogether ring = Due.of(TRIANGLE + "k0;k1;k2;");
    Due.is("all that must be kept are a ring", ring.is(7), 0);
    Due.is("not all that must be kept", ring.is(3) + ring.is(5) + ring.is(6), 0);
    Due.is("ways", ring.many(), 0);
  }

  private static void hangs() {
    Due.sentence(8, "HANGS: 1, 0.");
    HangsTogether x = Due.of(TRIANGLE + "x0;k1;");
    int[] want = {0, 0, 0, 1, 0, 1, 1, 1};
    for (int set = 0; set < 8; set++) {
      Due.is("set " + set, x.hangs(set), want[set]);
    }
    Due.is("no lanes", new HangsTogether().hangs(0), 0);
    Due.is("ONE joins either way", Due.of("l31011,1;l32011,1;").hangs(3), 1);
    HangsTogether full = Due.of(TWICE_SIX);
    Due.is("all ten", full.hangs(1023), 1);
    Due.is("all but the first two", full.hangs(1020), 0);
  }

  private static void parts() {
    Due.sentence(9, "PARTS.");
    for (int houses = 2; houses <= 7; houses++) {
      Due.is("no lanes", Due.of("h" + houses + ";").parts(0), houses);
    }
    HangsTogether x = Due.of("h7;l00111,1;l01211,1;l02311,1;l03411,1;l04511,1;l05611,1;", "l00111,1;l36011,1;x0;");
    for (int lanes = 0; lanes <= 6; lanes++) {
      Due.is("the first " + lanes, x.parts((1 << lanes) - 1), 7 - lanes);
    }
    Due.is("two between the same", x.parts(65), 6);
    Due.is("a ring", x.parts(191), 1);
  }

  private static void bitsThatAreNot() {
    Due.sentence(7, "-1 bits of LANES that there are not.");
    HangsTogether x = Due.of(TRIANGLE);
    int[] none = {8, 11, 16, 1024, -1, -8, LEAST, LEAST + 3, GREATEST};
    for (int bits : none) {
      Due.is("is " + bits, x.is(bits), -1);
    }
    HangsTogether full = Due.of(TWICE_SIX);
    Due.is("1023 of ten", full.is(1023), 0);
    Due.is("1024 of ten", full.is(1024), -1);
    Due.is("a way and one beyond", full.is(1024 + ODD), -1);
    x.takeUp();
    Due.is("one taken up", x.is(4), -1);
    Due.is("those that are left", x.is(3), 1);
    Due.sentence(8, "-1 likewise.");
    HangsTogether y = Due.of(TRIANGLE);
    for (int bits : none) {
      Due.is("hangs " + bits, y.hangs(bits), -1);
    }
    Due.is("7 of three", y.hangs(7), 1);
    Due.is("1024 of ten", full.hangs(1024), -1);
    Due.is("1 of none", new HangsTogether().hangs(1), -1);
    Due.sentence(9, "-1 likewise.");
    for (int bits : none) {
      Due.is("parts " + bits, y.parts(bits), -1);
    }
    Due.is("7 of three", y.parts(7), 1);
    Due.is("1024 of ten", full.parts(1024), -1);
    Due.is("1 of none", new HangsTogether().parts(1), -1);
    Due.is("-1s", y.count(11), 18);
  }

  private static void many() {
    Due.sentence(10, "MANY.");
    Due.is("no lanes", new HangsTogether().many(), 0);
    Due.is("one house apart", Due.of("h4;" + TRIANGLE).many(), 0);
    Due.is("one way", Due.of("h2;l00111,1;").many(), 1);
    Due.is("ten ways of one lane", Due.of("h2;", "l00111,1;", 10).many(), 10);
    Due.is("2 by 2 by 2 by 2 by 2", Due.of(TWICE_SIX).many(), 32);
    Due.is("all pairs of five", fiveHouses(0).many(), 125);
    HangsTogether x = Due.of(TRIANGLE + "x0;x1;x2;");
    Due.is("all barred", x.many(), 0);
    HangsTogether y = Due.of("h2;l00111,1;l00111,1;k0;k1;");
    Due.is("two that must be kept, room for one", y.many(), 0);
    HangsTogether ring = Due.of("h7;l00111,1;l01211,1;l02311,1;l03411,1;l04511,1;l05611,1;", "l06011,1;");
    Due.is("a ring of seven", ring.many(), 7);
  }

  /** A lane of a kind with w 4 for each pair of five houses. */
  private static HangsTogether fiveHouses(int kind) {
    HangsTogether x = Due.of("h5;");
    for (int from = 0; from < 5; from++) {
      for (int to = from + 1; to < 5; to++) {
        Due.tell(x, "l" + kind + from + to + "499,99;");
      }
    }
    return x;
  }

  private static void sum() {
    Due.sentence(Due.TERMS, "Its WORTH: all its WEIGHTS multiplied; its COST: all its COSTS together.");
    HangsTogether lone = Due.of("h4;l10139,0;l21249,0;l52319,0;");
    Due.is("6 by 4 by 3", lone.sum(), 72);
    Due.is("9 and 19 and 4", lone.cheap(0, 1), 32);
    Due.sentence(11, "SUM.");
    Due.is("no lanes", new HangsTogether().sum(), 0);
    Due.is("2 and 3 and 6", Due.of(TRIANGLE).sum(), 11);
    Due.is("3, as 0-1 must be kept, and 2", Due.of(TRIANGLE + "k0;").sum(), 5);
    Due.is("6, as 0-1 is barred", Due.of(TRIANGLE + "x0;").sum(), 6);
    Due.is("125 by 9 by 9 by 9 by 9", fiveHouses(5).sum(), 125 * 6561);
    HangsTogether wide = Due.of("h7;l50140,0;l51240,0;l52340,0;l53440,0;l54540,0;l55640,0;");
    Due.is("9 six times", wide.sum(), 531441);
    Due.tell(wide, "l55640,0;l55640,0;l54540,0;l54540,0;");
    Due.is("9 of them", wide.sum(), 9L * 531441);
  }

  private static void way() {
    Due.sentence(Due.TERMS, "ALL WAYS: rising as bits.");
    HangsTogether five = fiveHouses(0);
    int rising = 0;
    for (int i = 1; i < 125; i++) {
      rising += five.way(i) > five.way(i - 1) ? 1 : 0;
    }
    Due.is("each of 125 above the one ahead", rising, 124);
    Due.sentence(12, "The i-th WAY (bits); -9 none such.");
    HangsTogether x = Due.of(TRIANGLE);
    Due.is("0", x.way(0), 3);
    Due.is("1", x.way(1), 5);
    Due.is("the last", x.way(2), 6);
    Due.is("one beyond", x.way(3), -9);
    Due.is("the greatest", x.way(GREATEST), -9);
    Due.is("no ways", new HangsTogether().way(0), -9);
    Due.is("the first of 125", five.way(0), 15);
    // 2-3, 2-4 and 3-4 (128, 256, 512) are a ring, so the greatest are 3-4, 2-4, 1-4 and 0-4.
    Due.is("the last of 125", five.way(124), 512 + 256 + 64 + 8);
    Due.is("one beyond", five.way(125), -9);
    Due.is("-9 is no refusal", Due.refusals(x), 0);
    Due.sentence(12, "-4.");
    Due.is("-1", x.way(-1), -4);
    Due.is("the least", x.way(LEAST), -4);
    Due.is("-1 of no ways", new HangsTogether().way(-1), -4);
    Due.is("-4s", x.count(14), 2);
  }

  private static long likelyOf(HangsTogether x, int lane) {
    return Due.fraction(x.likely(lane, 0), x.likely(lane, 1));
  }

  private static long pairOf(HangsTogether x, int one, int other) {
    return Due.fraction(x.pair(one, other, 0), x.pair(one, other, 1));
  }

  private static void likely() {
    Due.sentence(13, "LIKELY, part 0 above, 1 below the line.");
    HangsTogether x = Due.of(TRIANGLE);
    Due.is("2 and 3 of 11", likelyOf(x, 0), Due.fraction(5, 11));
    Due.is("the last lane", likelyOf(x, 2), Due.fraction(9, 11));
    Due.sentence(Due.TERMS, "that a told LANE is in it, a fraction in least terms");
    Due.is("one that must be kept", likelyOf(Due.of(TRIANGLE + "k1;"), 1), Due.fraction(1, 1));
    Due.is("one that is barred", likelyOf(Due.of(TRIANGLE + "x1;"), 1), Due.fraction(0, 1));
    Due.is("the only one", likelyOf(Due.of("h2;l00141,1;"), 0), Due.fraction(1, 1));
    Due.is("2 of 4", likelyOf(Due.of("h2;l00121,1;l00121,1;"), 1), Due.fraction(1, 2));
    Due.is("9 of 90", likelyOf(Due.of("h2;", "l50141,1;", 10), 9), Due.fraction(1, 10));
    Due.is("4 of 5 lanes a pair", likelyOf(fiveHouses(5), 9), Due.fraction(2, 5));
  }

  private static void pair() {
    Due.sentence(14, "PAIR, part 0 above, 1 below the line.");
    HangsTogether x = Due.of(TRIANGLE);
    Due.is("2 of 11", pairOf(x, 0, 1), Due.fraction(2, 11));
    Due.is("the other way round", pairOf(x, 1, 0), Due.fraction(2, 11));
    Due.is("never", pairOf(Due.of("h2;l00111,1;l00111,1;"), 0, 1), Due.fraction(0, 1));
    Due.is("always", pairOf(Due.of("l00111,1;l01211,1;"), 0, 1), Due.fraction(1, 1));
    Due.is("in least terms", pairOf(Due.of(TWICE_SIX), 0, 9), Due.fraction(1, 4));
    Due.sentence(Due.TERMS, "PAIR: that two are (one twice: as LIKELY).");
    for (int lane = 0; lane < 3; lane++) {
      Due.is("lane " + lane + " twice", pairOf(x, lane, lane), likelyOf(x, lane));
    }
  }

  private static void less() {
    Due.sentence(Due.TERMS, "LESS of two unlike LANES: 1 PAIR is less than both LIKELY multiplied, 0 it is as much, 2 more.");
    HangsTogether x = Due.of(TRIANGLE);
    Due.is("2 of 11 is less than 5 by 8 of 121", x.less(0, 1), 1);
    Due.is("the other way round", x.less(1, 0), 1);
    Due.is("0 and 1", Due.of("h2;l00111,1;l00111,1;").less(0, 1), 1);
    HangsTogether apart = Due.of(TWICE_SIX);
    Due.is("as much", apart.less(0, 2), 0);
    Due.is("between the same two", apart.less(8, 9), 1);
    Due.sentence(15, "LESS: 1, 0, 2.");
    Due.is("one that must be kept", Due.of(TRIANGLE + "k0;").less(0, 1), 0);
    Due.is("one that is barred", Due.of(TRIANGLE + "x0;").less(0, 1), 0);
    Due.is("great sums", fiveHouses(5).less(0, 9), 0);
    Due.is("great sums", fiveHouses(5).less(0, 1), 1);
    Due.sentence(15, "-1 either (one twice, too); -3 there is no WAY.");
    int[] none = {-1, 3, 32, LEAST, GREATEST};
    for (int lane : none) {
      Due.is(lane + " and 0", x.less(lane, 0), -1);
      Due.is("0 and " + lane, x.less(0, lane), -1);
      Due.is(lane + " twice", x.less(lane, lane), -1);
    }
    Due.is("one twice", x.less(2, 2), -1);
    Due.is("-1s", x.count(11), 16);
    HangsTogether stuck = Due.of(TRIANGLE + "x0;x1;");
    Due.is("no way", stuck.less(0, 1), -3);
    Due.is("one twice first", stuck.less(0, 0), -1);
    Due.is("no such lane first", stuck.less(0, 3), -1);
  }

  private static void refusedFractions() {
    int[] noLanes = {-1, 3, 32, LEAST, GREATEST};
    int[] noParts = {-1, 2, LEAST, GREATEST};
    HangsTogether x = Due.of(TRIANGLE);
    HangsTogether stuck = Due.of(TRIANGLE + "x0;x1;");
    Due.sentence(13, "Refused as told: -1; -2; -3 there is no WAY.");
    for (int lane : noLanes) {
      Due.is("lane " + lane, x.likely(lane, 0), Due.L + 1);
    }
    for (int part : noParts) {
      Due.is("part " + part, x.likely(0, part), Due.L + 2);
      Due.is("part first", stuck.likely(0, part), Due.L + 2);
      Due.is("lane first", stuck.likely(3, part), Due.L + 1);
    }
    Due.is("no way", stuck.likely(2, 0), Due.L + 3);
    Due.is("no way", stuck.likely(2, 1), Due.L + 3);
    Due.is("lane first", stuck.likely(-1, 0), Due.L + 1);
    Due.sentence(14, "Refused as told: -1 either; -2; -3 there is no WAY.");
    for (int lane : noLanes) {
      Due.is("one " + lane, x.pair(lane, 0, 0), Due.L + 1);
      Due.is("other " + lane, x.pair(0, lane, 0), Due.L + 1);
    }
    for (int part : noParts) {
      Due.is("part " + part, x.pair(0, 1, part), Due.L + 2);
      Due.is("part first", stuck.pair(0, 0, part), Due.L + 2);
      Due.is("lane first", stuck.pair(0, 3, part), Due.L + 1);
      Due.is("lane first", stuck.pair(3, 0, part), Due.L + 1);
    }
    Due.is("no way", stuck.pair(1, 2, 0), Due.L + 3);
    Due.is("no way", stuck.pair(1, 2, 1), Due.L + 3);
    Due.is("-1s", x.count(11), 15);
    Due.is("-2s", x.count(12), 8);
    Due.is("-3s", stuck.count(13), 4);
  }

  private static void inAllAndNone() {
    Due.sentence(16, "IN ALL (bits).");
    HangsTogether x = Due.of("h4;" + TRIANGLE + "l00311,1;");
    Due.is("the only lane to 3", x.inAll(), 8);
    x.rule(0, 1);
    Due.is("what must be kept", x.inAll(), 9);
    Due.is("in none of these", Due.of(TRIANGLE).inAll(), 0);
    Due.is("one way", Due.of("l00111,1;l01211,1;").inAll(), 3);
    Due.sentence(17, "IN NONE (bits).");
    Due.is("each is in one", x.inNone(), 0);
    x.rule(1, 2);
    Due.is("a barred one", x.inNone(), 2);
    x.rule(1, 1);
    Due.is("a ring with what must be kept", x.inNone(), 4);
    Due.sentence(Due.TERMS, "(without any WAY: none in all, all in none)");
    HangsTogether none = new HangsTogether();
    Due.is("no lanes, in all", none.inAll(), 0);
    Due.is("no lanes, in none", none.inNone(), 0);
    HangsTogether apart = Due.of("h4;" + TRIANGLE + "k0;");
    Due.is("none in all", apart.inAll(), 0);
    Due.is("all in none", apart.inNone(), 7);
    HangsTogether full = Due.of("h7;", "l00111,1;", 10);
    Due.is("none in all", full.inAll(), 0);
    Due.is("ten in none", full.inNone(), 1023);
  }

  private static void cheap() {
    Due.sentence(18, "The i-th by COST (0: the CHEAPEST): bits (what 0), COST (1); -9 none such.");
    HangsTogether x = Due.of(TRIANGLE);
    int[] bits = {5, 3, 6, -9, -9};
    int[] costs = {11, 12, 13, -9, -9};
    for (int i = 0; i < 5; i++) {
      Due.is("bits of " + i, x.cheap(i, 0), bits[i]);
      Due.is("cost of " + i, x.cheap(i, 1), costs[i]);
    }
    Due.is("the greatest", x.cheap(GREATEST, 0), -9);
    Due.is("no way", new HangsTogether().cheap(0, 1), -9);
    Due.is("-9 is no refusal", Due.refusals(x), 0);
    Due.is("no cost", Due.of("h2;l00110,0;").cheap(0, 1), 0);
    HangsTogether snowy = Due.of("h7;l401199,0;l412199,0;l423199,0;l434199,0;l445199,0;l456199,0;");
    Due.is("the greatest cost", snowy.cheap(0, 1), 6 * 218);
    Due.sentence(Due.TERMS, "the WAY of least COST, of several the least as bits; the i-th in this order (by COST, then bits)");
    HangsTogether alike = fiveHouses(0);
    for (int i = 0; i < 125; i += 31) {
      Due.is("alike, as they rise " + i, alike.cheap(i, 0), alike.way(i));
    }
    Due.is("one beyond", alike.cheap(125, 0), -9);
    HangsTogether falling = Due.of("h2;l00113,0;l00112,0;l00112,0;l00111,0;");
    int[] order = {8, 2, 4, 1};
    for (int i = 0; i < 4; i++) {
      Due.is("falling costs " + i, falling.cheap(i, 0), order[i]);
    }
    falling.rule(1, 2);
    Due.is("after a rule", falling.cheap(1, 0), 4);
    falling.takeUp();
    Due.is("after one was taken up", falling.cheap(0, 0), 4);
  }

  private static void cheapRefused() {
    Due.sentence(18, "-2; -4.");
    HangsTogether x = Due.of(TRIANGLE);
    int[] noWhats = {-1, 2, LEAST, GREATEST};
    for (int what : noWhats) {
      Due.is("what " + what, x.cheap(0, what), -2);
      Due.is("what first", x.cheap(-1, what), -2);
      Due.is("what first", x.cheap(3, what), -2);
    }
    Due.is("-1", x.cheap(-1, 0), -4);
    Due.is("-1", x.cheap(-1, 1), -4);
    Due.is("the least", x.cheap(LEAST, 1), -4);
    Due.is("-2s", x.count(12), 12);
    Due.is("-4s", x.count(14), 3);
  }

  private static void nights() {
    Due.sentence(19, "NIGHTS.");
    HangsTogether x = Due.of(TRIANGLE);
    Due.is("alike", x.nights(3, 3), 0);
    Due.is("one", x.nights(3, 6), 1);
    HangsTogether full = Due.of(TWICE_SIX);
    Due.is("all five", full.nights(EVEN, ODD), 5);
    Due.is("back", full.nights(ODD, EVEN), 5);
    Due.is("four", full.nights(EVEN + 1, ODD), 4);
  }

  private static void step() {
    Due.sentence(20, "STEP.");
    HangsTogether full = Due.of(TWICE_SIX);
    Due.is("0 for 1 rises least", full.step(EVEN, ODD), EVEN + 1);
    Due.is("9 for 8 falls most", full.step(ODD, EVEN), ODD - 256);
    HangsTogether x = Due.of(TRIANGLE);
    Due.is("the last step", x.step(3, 6), 6);
    Due.is("the last step", x.step(6, 5), 5);
    Due.is("the last step, to the first of all ways", x.step(6, 3), 3);
    Due.sentence(Due.TERMS, "the same, if they are alike");
    Due.is("alike", x.step(5, 5), 5);
    Due.is("alike", full.step(ODD, ODD), ODD);
    Due.sentence(Due.TERMS, "giving up one LANE that is not in the other and keeping one of the other instead (so that it is a WAY)");
    // 0-1, 1-2, 2-3 to 0-1, 3-0, 0-2: 1-2 given up for 3-0 (13) or 0-2 (21), 2-3 for 3-0 (11).
    HangsTogether square = Due.of("h4;l00110,0;l01210,0;l02310,0;l03010,0;l00210,0;");
    Due.is("the least, 2-3 for 3-0", square.step(7, 25), 11);
    Due.is("1-2 for 0-2, which is no ring", square.step(11, 25), 25);
    Due.is("2-3 for 0-2 would be a ring", square.step(7, 21), 21);
    square.rule(0, 1);
    Due.is("what must be kept stays", square.step(7, 25), 11);
  }

  private static void stepsLeadThere() {
    Due.sentence(Due.TERMS, "NIGHTS from a WAY to a WAY (told as bits): how many LANES of the one are not in the other.");
    HangsTogether x = fiveHouses(0);
    for (int i = 0; i < 125; i += 9) {
      int at = x.way(i);
      int to = x.way(124 - i);
      int nights = x.nights(at, to);
      for (int night = 0; night < nights; night++) {
        at = x.step(at, to);
      }
      Due.is("a lane a night, from way " + i, at, to);
    }
  }

  /** The same village twice, once with ONE instead of LANE. */
  private static void oneMattersNot() {
    Due.sentence(Due.TERMS, "It is gone along either way; ONE only from FROM to TO (that matters to TOWARD and to WALK alone).");
    HangsTogether one = Due.of("l31015,10;l32127,20;l32036,5;");
    HangsTogether either = Due.of("l01015,10;l02127,20;l02036,5;");
    for (int set = 0; set < 8; set++) {
      Due.is("is " + set, one.is(set), either.is(set));
      Due.is("hangs " + set, one.hangs(set), either.hangs(set));
      Due.is("parts " + set, one.parts(set), either.parts(set));
    }
    for (int part = 0; part < 2; part++) {
      Due.is("likely", one.likely(0, part), either.likely(0, part));
      Due.is("hard", one.hard(0, 2, part), either.hard(0, 2, part));
      Due.is("more", one.more(0, 2, part), either.more(0, 2, part));
      Due.is("holds", one.holds(part), either.holds(part));
    }
    Due.is("ploughs", one.ploughs(5), either.ploughs(5));
    Due.is("forests", one.forests(2), either.forests(2));
    for (int z = 0; z < 10; z++) {
      Due.is("drawn by STEP", one.draw(1, z), either.draw(1, z));
    }
    Due.is("toward 2, none from 0", one.toward(2, 0) * 10 + either.toward(2, 0), 3);
    Due.is("walking, none from 0", one.draw(0, 1), -9);
    Due.is("walking either way", either.is(either.draw(0, 1)), 1);
  }

  private static void notWays() {
    HangsTogether x = Due.of("h4;" + TRIANGLE + "l00311,1;l00311,1;x4;k0;");
    int way = 11;
    int[] none = {0, 3, 7, 15, 14, 19, 32 + way, 1024 + way, LEAST + way, -1, LEAST, GREATEST};
    Due.is("this is one", x.is(way), 1);
    Due.sentence(19, "-3 either is no WAY.");
    for (int bits : none) {
      Due.is("from " + bits, x.nights(bits, way), -3);
      Due.is("to " + bits, x.nights(way, bits), -3);
      Due.is("both " + bits, x.nights(bits, bits), -3);
    }
    Due.sentence(20, "-3 either is no WAY.");
    for (int bits : none) {
      Due.is("from " + bits, x.step(bits, way), -3);
      Due.is("to " + bits, x.step(way, bits), -3);
      Due.is("both " + bits, x.step(bits, bits), -3);
    }
    Due.is("-3s", x.count(13), 6 * none.length);
    Due.is("no lanes", new HangsTogether().step(0, 0), -3);
    Due.is("no lanes", new HangsTogether().nights(0, 0), -3);
  }
}
