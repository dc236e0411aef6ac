/** What the document says of the edges of ways toward a house, parts, fractions and plans: promises 21 to 27. */
final class EdgesOfHouses {
  private static final int LEAST = Integer.MIN_VALUE;
  private static final int GREATEST = Integer.MAX_VALUE;
  private static final String TRIANGLE = "l00115,10;l01227,20;l00236,5;";
  private static final String SEVEN_IN_A_ROW = "h7;l00111,99;l01211,99;l02311,99;l03411,99;l04511,99;l05611,99;";
  private static final String[] TWICE_SIX = {"h6;l00111,1;l00111,1;l01211,1;l01211,1;l02311,1;l02311,1;",
      "l03411,1;l03411,1;l04511,1;l04511,1;"};
  private static final int[] NO_PARTS = {-1, 2, LEAST, GREATEST};

  private EdgesOfHouses() {
  }

  static void run() {
    toward();
    towardByOne();
    towardRefused();
    forests();
    forestsRefused();
    ploughs();
    ploughsRefused();
    hard();
    hardRefused();
    more();
    moreRefused();
    holds();
    holdsRoom();
    plan();
    planOfOtherHouses();
    planOfNoWays();
    planRefused();
  }

  private static void toward() {
    Due.sentence(21, "TOWARD: how many (what 0), all WORTHS (1).");
    HangsTogether x = Due.of(TRIANGLE);
    for (int house = 0; house < 3; house++) {
      Due.is("how many to " + house, x.toward(house, 0), 3);
      Due.is("worths to " + house, x.toward(house, 1), 11);
    }
    HangsTogether none = Due.of("h7;");
    Due.is("no lanes", none.toward(6, 0), 0);
    Due.is("no lanes", none.toward(6, 1), 0);
    Due.is("two lanes, one of them each", Due.of("h2;l00121,1;l51041,1;").toward(0, 0), 2);
    Due.is("their worths", Due.of("h2;l00121,1;l51041,1;").toward(0, 1), 11);
    Due.sentence(Due.TERMS, "MUST, BARRED matter as in a WAY");
    Due.is("with 0-1", Due.of(TRIANGLE + "k0;").toward(2, 1), 5);
    Due.is("without 0-1", Due.of(TRIANGLE + "x0;").toward(2, 1), 6);
    Due.is("all must be kept", Due.of(TRIANGLE + "k0;k1;k2;").toward(2, 0), 0);
    Due.is("none may be kept", Due.of(TRIANGLE + "x0;x1;x2;").toward(2, 0), 0);
  }

  private static void towardByOne() {
    Due.sentence(Due.TERMS, "(ONE only from FROM to TO; others either way, but each LANE once at most;");
    HangsTogether two = Due.of("h2;l30111,1;");
    Due.is("along it", two.toward(1, 0), 1);
    Due.is("against it", two.toward(0, 0), 0);
    Due.is("that matters to no way", two.many(), 1);
    HangsTogether row = Due.of("h7;l30141,1;l31241,1;l32341,1;l33441,1;l34541,1;l35641,1;");
    for (int house = 0; house < 7; house++) {
      Due.is("how many to " + house, row.toward(house, 0), house == 6 ? 1 : 0);
      Due.is("worths to " + house, row.toward(house, 1), house == 6 ? 4096 : 0);
    }
    HangsTogether both = Due.of("l31011,1;l32011,1;");
    Due.is("both come to 0", both.toward(0, 0), 1);
    Due.is("0 has none to go on by", both.toward(1, 0), 0);
    HangsTogether mixed = Due.of("l30115,10;l31227,20;l00236,5;");
    Due.is("to 0: 1-2-0", mixed.toward(0, 1), 6);
    Due.is("to 1: 2-0-1", mixed.toward(1, 1), 3);
    Due.is("to 2: 0-1-2, or 0-2 and 1-2", mixed.toward(2, 1), 8);
  }

  private static void towardRefused() {
    Due.sentence(21, "Refused as told: -1; -2.");
    HangsTogether x = Due.of(TRIANGLE);
    int[] none = {-1, 3, 7, LEAST, GREATEST};
    for (int house : none) {
      Due.is("house " + house, x.toward(house, 0), Due.L + 1);
      Due.is("house first", x.toward(house, 2), Due.L + 1);
    }
    for (int what : NO_PARTS) {
      Due.is("what " + what, x.toward(2, what), Due.L + 2);
    }
    Due.is("-1s", x.count(11), 10);
    Due.is("-2s", x.count(12), 4);
    HangsTogether seven = Due.of(SEVEN_IN_A_ROW);
    Due.is("house 6 of 7", seven.toward(6, 0), 1);
    Due.is("house 7 of 7", seven.toward(7, 0), Due.L + 1);
    HangsTogether two = Due.of("h2;");
    Due.is("house 1 of 2", two.toward(1, 0), 0);
    Due.is("house 2 of 2", two.toward(2, 0), Due.L + 1);
  }

  private static void forests() {
    Due.sentence(Due.TERMS, "FORESTS of k (1 .. 7) parts");
    HangsTogether x = Due.of(TWICE_SIX);
    int[] want = {32, 80, 80, 40, 10, 1, 0};
    for (int k = 1; k <= 7; k++) {
      Due.is("of " + k, x.forests(k), want[k - 1]);
    }
    HangsTogether seven = Due.of("h7;");
    for (int k = 1; k <= 7; k++) {
      Due.is("no lanes, of " + k, seven.forests(k), k == 7 ? 1 : 0);
    }
    Due.sentence(22, "FORESTS.");
    HangsTogether two = Due.of("h2;l00111,1;");
    Due.is("of one", two.forests(1), 1);
    Due.is("of as many as houses", two.forests(2), 1);
    Due.is("of more than houses", two.forests(3) + two.forests(7), 0);
    Due.sentence(Due.TERMS, "sets of LANES without a ring, with all that MUST be kept, without BARRED ones, that leave k parts");
    HangsTogether must = Due.of(TRIANGLE + "k0;");
    Due.is("with 0-1, of 3", must.forests(3), 0);
    Due.is("with 0-1, of 2", must.forests(2), 1);
    Due.is("with 0-1, of 1", must.forests(1), 2);
    HangsTogether barred = Due.of(TRIANGLE + "x0;");
    Due.is("without 0-1, of 3", barred.forests(3), 1);
    Due.is("without 0-1, of 2", barred.forests(2), 2);
    Due.is("without 0-1, of 1", barred.forests(1), 1);
    HangsTogether ring = Due.of("h2;l00111,1;l00111,1;k0;k1;");
    Due.is("all that must be kept are a ring", ring.forests(1) + ring.forests(2), 0);
  }

  private static void forestsRefused() {
    Due.sentence(22, "-4; -6 7.");
    HangsTogether x = Due.of(TRIANGLE);
    Due.is("0", x.forests(0), -4);
    Due.is("-1", x.forests(-1), -4);
    Due.is("the least", x.forests(LEAST), -4);
    Due.is("1", x.forests(1), 3);
    Due.is("7", x.forests(7), 0);
    Due.is("8", x.forests(8), -6);
    Due.is("the greatest", x.forests(GREATEST), -6);
    Due.is("-4s", x.count(14), 3);
    Due.is("-6s", x.count(16), 2);
  }

  private static void ploughs() {
    Due.sentence(Due.TERMS, "one in each part, no two in one: how many such sets (k is how many these are)");
    HangsTogether x = Due.of(TWICE_SIX);
    Due.is("one plough", x.ploughs(1), 32);
    Due.is("one plough at the end", x.ploughs(32), 32);
    Due.is("at both ends", x.ploughs(33), 80);
    Due.is("at neighbours", x.ploughs(3), 16);
    Due.is("in each house", x.ploughs(63), 1);
    Due.is("in all but the first", x.ploughs(62), 2);
    HangsTogether seven = Due.of("h7;");
    Due.is("in each house of seven", seven.ploughs(127), 1);
    Due.is("in all but one", seven.ploughs(126), 0);
    Due.is("in the last", seven.ploughs(64), 0);
    Due.sentence(23, "PLOUGHS.");
    HangsTogether must = Due.of(TRIANGLE + "k0;");
    Due.is("0 and 1 are in one part", must.ploughs(3), 0);
    Due.is("0 and 2 are not", must.ploughs(5), 1);
    Due.is("in each house", must.ploughs(7), 0);
    Due.is("without 0-1", Due.of(TRIANGLE + "x0;").ploughs(3), 2);
  }

  private static void ploughsRefused() {
    Due.sentence(23, "-1 bits of HOUSES that there are not, none.");
    HangsTogether x = Due.of(TRIANGLE);
    int[] none = {0, 8, 9, 15, 128, -1, -8, LEAST, LEAST + 1, GREATEST};
    for (int houses : none) {
      Due.is("houses " + houses, x.ploughs(houses), -1);
    }
    Due.is("-1s", x.count(11), none.length);
    Due.is("the greatest of 3", x.ploughs(7), 1);
    Due.is("the greatest of 7 and one", Due.of("h7;").ploughs(128), -1);
    Due.is("the greatest of 2", Due.of("h2;").ploughs(3), 1);
    Due.is("the greatest of 2 and one", Due.of("h2;").ploughs(4), -1);
    Due.sentence(Due.TERMS, "of told HOUSES (bits, not none)");
    Due.is("none", Due.of("h2;").ploughs(0), -1);
  }

  private static long hardOf(HangsTogether x, int from, int to) {
    return Due.fraction(x.hard(from, to, 0), x.hard(from, to, 1));
  }

  private static long moreOf(HangsTogether x, int one, int other) {
    return Due.fraction(x.more(one, other, 0), x.more(one, other, 1));
  }

  private static void hard() {
    Due.sentence(24, "HARD, part 0 above, 1 below the line.");
    HangsTogether row = Due.of(SEVEN_IN_A_ROW);
    Due.is("six lanes", hardOf(row, 0, 6), Due.fraction(6, 1));
    Due.is("back", hardOf(row, 6, 0), Due.fraction(6, 1));
    Due.is("one lane", hardOf(row, 5, 6), Due.fraction(1, 1));
    Due.is("ten of 9", hardOf(Due.of("h2;", "l50141,1;", 10), 0, 1), Due.fraction(1, 90));
    Due.is("in least terms: 4 of 4", hardOf(Due.of("l10111,1;l11211,1;"), 0, 2), Due.fraction(1, 1));
    Due.is("against ONE", hardOf(Due.of("h2;l30121,1;"), 1, 0), Due.fraction(1, 2));
    Due.sentence(Due.TERMS, "not BARRED (MUST does not matter here)");
    Due.is("free", hardOf(Due.of(TRIANGLE), 0, 1), Due.fraction(5, 11));
    Due.is("must be kept", hardOf(Due.of(TRIANGLE + "k0;"), 0, 1), Due.fraction(5, 11));
    Due.is("a ring must be kept", hardOf(Due.of(TRIANGLE + "k0;k1;k2;"), 0, 1), Due.fraction(5, 11));
    Due.is("barred", hardOf(Due.of(TRIANGLE + "x0;"), 0, 1), Due.fraction(5, 6));
  }

  private static void hardRefused() {
    Due.sentence(24, "Refused as told: -1 either (one twice, too); -2; -3 nothing.");
    HangsTogether x = Due.of(TRIANGLE);
    HangsTogether stuck = Due.of("h4;" + TRIANGLE);
    refusedHouses(x, stuck, true);
    Due.is("house 6 of 7", hardOf(Due.of(SEVEN_IN_A_ROW), 4, 6), Due.fraction(2, 1));
    Due.is("house 7 of 7", Due.of(SEVEN_IN_A_ROW).hard(4, 7, 0), Due.L + 1);
    Due.sentence(Due.TERMS, "a fraction in least terms; nothing, if the latter are none");
    Due.is("no lanes", new HangsTogether().hard(0, 1, 0), Due.L + 3);
    Due.is("a house apart", stuck.hard(0, 1, 1), Due.L + 3);
    Due.is("all barred", Due.of(TRIANGLE + "x0;x1;x2;").hard(0, 1, 0), Due.L + 3);
    HangsTogether ring = Due.of(TRIANGLE + "k0;k1;k2;");
    Due.is("no way", ring.many(), 0);
    Due.is("but something", ring.hard(0, 1, 1), 11);
  }

  /** The houses and parts that both HARD and MORE refuse. */
  private static void refusedHouses(HangsTogether x, HangsTogether stuck, boolean hard) {
    int[] none = {-1, 3, 7, LEAST, GREATEST};
    for (int house : none) {
      Due.is("first " + house, hardOrMore(x, hard, house, 0, 0), Due.L + 1);
      Due.is("second " + house, hardOrMore(x, hard, 0, house, 1), Due.L + 1);
      Due.is("house first", hardOrMore(x, hard, 0, house, 2), Due.L + 1);
    }
    for (int house = 0; house < 3; house++) {
      Due.is("twice " + house, hardOrMore(x, hard, house, house, 0), Due.L + 1);
      Due.is("twice first", hardOrMore(stuck, hard, house, house, 2), Due.L + 1);
    }
    for (int part : NO_PARTS) {
      Due.is("part " + part, hardOrMore(x, hard, 0, 1, part), Due.L + 2);
      Due.is("part first", hardOrMore(stuck, hard, 0, 1, part), Due.L + 2);
    }
    for (int part = 0; part < 2; part++) {
      Due.is("nothing", hardOrMore(stuck, hard, 0, 1, part), Due.L + 3);
    }
    Due.is("-1s", x.count(11), 3 * none.length + 3);
    Due.is("-2s", x.count(12), NO_PARTS.length);
    Due.is("-3s", stuck.count(13), 2);
  }

  private static long hardOrMore(HangsTogether x, boolean hard, int one, int other, int part) {
    return hard ? x.hard(one, other, part) : x.more(one, other, part);
  }

  private static void more() {
    Due.sentence(25, "MORE, part 0 above, 1 below the line.");
    HangsTogether x = Due.of(TRIANGLE);
    Due.is("11 and 5", moreOf(x, 0, 1), Due.fraction(16, 11));
    Due.is("the other way round", moreOf(x, 1, 0), Due.fraction(16, 11));
    Due.is("from end to end", moreOf(Due.of(SEVEN_IN_A_ROW), 0, 6), Due.fraction(7, 1));
    Due.is("in least terms: 8 of 4", moreOf(Due.of("l10111,1;l11211,1;"), 0, 2), Due.fraction(2, 1));
    Due.sentence(Due.TERMS, "if there were one LANE more between them (LANE, w 1)");
    Due.is("though there is no room", moreOf(Due.of("h2;", "l50141,1;", 10), 0, 1), Due.fraction(91, 90));
    Due.is("with what must be kept", moreOf(Due.of(TRIANGLE + "k0;"), 1, 2), Due.fraction(6, 5));
    Due.is("a ring with what must be kept", moreOf(Due.of(TRIANGLE + "k0;"), 0, 1), Due.fraction(1, 1));
    Due.is("without what is barred", moreOf(Due.of(TRIANGLE + "x0;"), 0, 1), Due.fraction(11, 6));
    Due.is("the lane is not there", x.count(1), 3);
  }

  private static void moreRefused() {
    Due.sentence(25, "Refused as told: -1 either (one twice, too); -2; -3 there is no WAY.");
    refusedHouses(Due.of(TRIANGLE), Due.of("h4;" + TRIANGLE), false);
    Due.is("no lanes, though one more would do", Due.of("h2;").more(0, 1, 0), Due.L + 3);
    HangsTogether ring = Due.of(TRIANGLE + "k0;k1;k2;");
    Due.is("a ring must be kept", ring.more(0, 1, 0), Due.L + 3);
    Due.is("house 7 of 7", Due.of(SEVEN_IN_A_ROW).more(7, 6, 0), Due.L + 1);
  }

  private static void holds(String call, HangsTogether x, long above, long below) {
    Due.is(call + ", above", x.holds(0), above);
    Due.is(call + ", below", x.holds(1), below);
  }

  private static void holds() {
    Due.sentence(26, "HOLDS, part 0 above, 1 below the line.");
    holds("no lanes", new HangsTogether(), 0, 1);
    holds("never drifted up", Due.of("h2;l00111,0;"), 1, 1);
    holds("1 of 100", Due.of("h2;l00111,99;"), 1, 100);
    holds("in least terms", Due.of("h2;l00111,50;"), 1, 2);
    holds("snowy, 99 at most", Due.of("h2;l40111,99;"), 1, 100);
    holds("two of three", Due.of("l00111,50;l01211,50;l02011,50;"), 1, 2);
    holds("the least of six lanes", Due.of(SEVEN_IN_A_ROW), 1, 1000000000000L);
    holds("a house apart", Due.of("h4;" + TRIANGLE), 0, 1);
    Due.sentence(Due.TERMS, "if each is drifted up by its DRIFT, on its own (MUST ones never): a fraction in least terms");
    holds("must", Due.of("h2;l00111,99;k0;"), 1, 1);
    holds("a ring must be kept", Due.of("h2;l00111,99;l00111,99;k0;k1;"), 1, 1);
    holds("one of two must", Due.of("l00111,99;l01211,75;k0;"), 1, 4);
    holds("barred", Due.of("h2;l00111,0;x0;"), 0, 1);
    holds("one of two is barred", Due.of("h2;l00111,0;l00111,75;x0;"), 1, 4);
  }

  private static void holdsRoom() {
    Due.sentence(Due.TERMS, "HOLDS (8 LANES at most that are not BARRED)");
    HangsTogether x = Due.of("h2;", "l00111,99;", 8);
    holds("eight", x, 10000000000000000L - 9227446944279201L, 10000000000000000L);
    Due.tell(x, "l00111,0;");
    Due.is("nine", x.holds(0), Due.L + 6);
    Due.tell(x, "x8;");
    Due.is("nine, one of them barred", x.holds(1), 10000000000000000L);
    Due.tell(x, "l00111,0;");
    Due.is("ten, one of them barred", x.holds(1), Due.L + 6);
    x.rule(0, 2);
    holds("ten, two of them barred", x, 1, 1);
    x.rule(0, 1);
    Due.is("nine, one of which must be kept", x.holds(0), Due.L + 6);
    Due.sentence(26, "Refused as told: -2; -6.");
    for (int part : NO_PARTS) {
      Due.is("part " + part, Due.of("h2;l00111,0;").holds(part), Due.L + 2);
      Due.is("part first", x.holds(part), Due.L + 2);
    }
    Due.is("-2s", x.count(12), 4);
    Due.is("-6s", x.count(16), 3);
  }

  private static void plan() {
    Due.sentence(27, "BEST PLAN: how many WAYS (what 0), the bits (1).");
    HangsTogether two = Due.of("h2;");
    Due.is("2 houses, 1 lane", two.plan(1, 0), 1);
    Due.is("2 houses, 1 lane", two.plan(1, 1), 1);
    HangsTogether three = Due.of("h3;" + TRIANGLE + "x0;k1;");
    Due.is("3 houses, 2 lanes", three.plan(2, 0), 1);
    Due.is("the first of three such sets", three.plan(2, 1), 3);
    Due.is("3 houses, 3 lanes", three.plan(3, 0), 3);
    Due.is("all pairs", three.plan(3, 1), 7);
    HangsTogether four = Due.of("h4;");
    int[] most = {1, 4, 8, 16};
    int[] first = {7, 30, 31, 63};
    for (int k = 3; k <= 6; k++) {
      Due.is("4 houses, " + k + " lanes", four.plan(k, 0), most[k - 3]);
      Due.is("its bits", four.plan(k, 1), first[k - 3]);
    }
    HangsTogether five = Due.of("h5;");
    Due.is("a star", five.plan(4, 1), 15);
    // 0-3-2-1-4-0: 03, 04, 12, 14, 23 are the bits 2, 3, 4, 6, 7.
    Due.is("a ring of five", five.plan(5, 0), 5);
    Due.is("the first of them", five.plan(5, 1), 220);
    Due.is("two houses with three between them", five.plan(6, 0), 12);
    Due.is("all pairs but one", five.plan(9, 0), 75);
    Due.is("the first of them", five.plan(9, 1), 511);
    Due.is("all pairs", five.plan(10, 0), 125);
    Due.is("all pairs", five.plan(10, 1), 1023);
    Due.tell(five, "h3;");
    Due.is("after fewer houses were told", five.plan(3, 0), 3);
    Due.tell(five, "h5;");
    Due.is("and more again", five.plan(10, 0), 125);
  }

  /** As houses become more and fewer again, nothing of an earlier plan is left. */
  private static void planOfOtherHouses() {
    Due.sentence(Due.TERMS, "BEST PLAN of k LANES (5 HOUSES at most; k 1 .. 10): of all sets of k unlike pairs of HOUSES (each a LANE with w 1) the most WAYS; the first such set as bits of pairs (01, 02, .., 12, ..)");
    HangsTogether x = Due.of("h3;");
    Due.is("3 houses, 3 lanes", x.plan(3, 0), 3);
    Due.tell(x, "h4;");
    Due.is("4 houses, 3 lanes", x.plan(3, 0), 1);
    Due.is("its bits", x.plan(3, 1), 7);
    Due.is("4 houses, 4 lanes", x.plan(4, 0), 4);
    Due.is("0-2-1-3-0: 02, 03, 12, 13", x.plan(4, 1), 30);
    Due.tell(x, "h5;");
    Due.is("5 houses, 4 lanes", x.plan(4, 0), 1);
    Due.is("its bits", x.plan(4, 1), 15);
    Due.is("5 houses, 3 lanes", x.plan(3, 0), 0);
    Due.is("its bits", x.plan(3, 1), 0);
    Due.is("5 houses, 10 lanes", x.plan(10, 0), 125);
    Due.tell(x, "h2;");
    Due.is("2 houses, 1 lane", x.plan(1, 0), 1);
    Due.tell(x, "h5;l00141,1;l01241,1;x0;k1;");
    Due.is("lanes that are there do not matter", x.plan(10, 0), 125);
  }

  private static void planOfNoWays() {
    Due.sentence(Due.TERMS, "0 WAYS: 0 bits.");
    for (int houses = 3; houses <= 5; houses++) {
      HangsTogether x = Due.of("h" + houses + ";");
      for (int k = 1; k < houses - 1; k++) {
        Due.is(houses + " houses, " + k + " lanes", x.plan(k, 0), 0);
        Due.is("its bits", x.plan(k, 1), 0);
      }
      Due.is("just enough", x.plan(houses - 1, 0), 1);
      Due.is("its bits", x.plan(houses - 1, 1), (1 << houses - 1) - 1);
    }
  }

  private static void planRefused() {
    Due.sentence(27, "-2; -4; -6 (10; more than 5 HOUSES; more LANES than pairs).");
    HangsTogether x = Due.of("h5;");
    for (int what : NO_PARTS) {
      Due.is("what " + what, x.plan(1, what), -2);
      Due.is("what first", x.plan(0, what), -2);
      Due.is("what first", x.plan(11, what), -2);
    }
    for (int what = 0; what < 2; what++) {
      Due.is("0", x.plan(0, what), -4);
      Due.is("-1", x.plan(-1, what), -4);
      Due.is("the least", x.plan(LEAST, what), -4);
      Due.is("11", x.plan(11, what), -6);
      Due.is("the greatest", x.plan(GREATEST, what), -6);
    }
    Due.is("-2s", x.count(12), 12);
    Due.is("-4s", x.count(14), 6);
    Due.is("-6s", x.count(16), 4);
    for (int houses = 2; houses <= 5; houses++) {
      HangsTogether y = Due.of("h" + houses + ";");
      int pairs = houses * (houses - 1) / 2;
      Due.is("all pairs of " + houses, y.plan(pairs, 1), (1 << pairs) - 1);
      Due.is("more than pairs of " + houses, y.plan(pairs + 1, 1), -6);
    }
    for (int houses = 6; houses <= 7; houses++) {
      HangsTogether y = Due.of("h" + houses + ";");
      Due.is(houses + " houses", y.plan(5, 0), -6);
      Due.is(houses + " houses", y.plan(1, 1), -6);
      Due.is("below first", y.plan(0, 1), -4);
      Due.is("what first", y.plan(0, 2), -2);
    }
  }
}
