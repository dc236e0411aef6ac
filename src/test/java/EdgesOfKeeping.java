/** What the document says of the edges of the image, of counts and of refusals: promises 32 to 34. */
final class EdgesOfKeeping {
  private static final int LEAST = Integer.MIN_VALUE;
  private static final int GREATEST = Integer.MAX_VALUE;
  private static final String TRIANGLE = "l00115,10;l01227,20;l00236,5;";
  /** The refused calls of a run of calls, with the number that is due. */
  private static final int NOBODY = -1;
  private static final int OTHER = -2;
  private static final int STATE = -3;
  private static final int BELOW = -4;
  private static final int ROOM = -6;

  private EdgesOfKeeping() {
  }

  static void run() {
    image();
    imageHasAll();
    imageHasNotAll();
    restore();
    restoreRefused();
    counts();
    countOfRefusals();
    countOfAnother();
    refusedInts();
    refusedLongs();
    refusedByState();
    refusedByRoom();
    countedByNumber();
  }

  private static void image() {
    Due.sentence(32, "THE IMAGE is taken: how many LANES.");
    Due.is("no lanes", new HangsTogether().image(), 0);
    Due.is("three", Due.of(TRIANGLE).image(), 3);
    HangsTogether x = Due.of("h2;", "l00111,1;", 10);
    Due.is("ten", x.image(), 10);
    x.takeUp();
    Due.is("another one", x.image(), 9);
    x.takeUp();
    Due.is("the latest image", x.restore(), 9);
  }

  private static void imageHasAll() {
    Due.sentence(Due.TERMS, "THE IMAGE: all that there is,");
    HangsTogether x = Due.of("h5;l401298,97;l53211,2;l04313,4;k0;x1;");
    x.image();
    Due.tell(x, "h7;f0;k1;x2;l06011,1;");
    x.takeUp();
    x.takeUp();
    Due.tell(x, "l30119,9;l30119,9;l30119,9;k2;");
    Due.is("restored", x.restore(), 3);
    int[][] want = {{4, 0, 1, 2, 216, 99, 1}, {5, 3, 2, 3, 0, 2, 2}, {0, 4, 3, 1, 3, 4, 0}};
    for (int lane = 0; lane < 3; lane++) {
      for (int what = 0; what < 7; what++) {
        Due.is("lane " + lane + " what " + what, x.lane(lane, what), want[lane][what]);
      }
    }
    Due.is("no fourth lane", x.lane(3, 0), -1);
    Due.is("houses", x.count(0), 5);
    Due.is("parts", x.parts(7), 2);
    Due.is("forests", x.forests(3), 1);
    HangsTogether y = Due.of(TRIANGLE);
    y.image();
    y.rule(0, 2);
    Due.is("a rule after the image", y.many(), 1);
    y.restore();
    Due.is("is not in it", y.many() * 100 + y.sum(), 311);
    Due.is("cheapest", y.cheap(0, 0), 5);
    y.rule(2, 2);
    y.restore();
    Due.is("what comes after it is not in it either", y.lane(2, 6), 0);
  }

  private static void imageHasNotAll() {
    Due.sentence(Due.TERMS, "but it, letters, the ROW, REFUSALS.");
    HangsTogether x = Due.of(TRIANGLE);
    x.row(2);
    Due.feed(x, "h");
    x.way(-1);
    x.image();
    x.row(0);
    Due.feed(x, "4;");
    x.way(-1);
    x.is(-1);
    Due.is("restored", x.restore(), 3);
    Due.is("letters stay", x.count(5), 3);
    Due.is("the row stays", x.count(6), 2);
    Due.is("-4s stay", x.count(14), 2);
    Due.is("-1s stay", x.count(11), 1);
    Due.is("the row's lanes stay", x.draw(5, 1), 5);
    Due.is("the letters are these", x.village(), 1);
    Due.is("houses", x.count(0), 4);
    Due.is("the image stays", x.restore(), 3);
    Due.is("houses", x.count(0), 3);
    Due.is("the row is judged", x.judge(), -9);
    x.restore();
    Due.is("what was judged does not come back", x.count(6), 0);
  }

  private static void restore() {
    Due.sentence(33, "It is RESTORED: how many LANES.");
    HangsTogether x = new HangsTogether();
    x.image();
    Due.tell(x, "h7;l00611,1;");
    Due.is("no lanes", x.restore(), 0);
    Due.is("houses", x.count(0), 3);
    Due.is("lanes", x.count(1), 0);
    HangsTogether full = Due.of("h2;", "l00111,1;", 10);
    full.image();
    while (full.count(1) > 0) {
      full.takeUp();
    }
    Due.is("ten", full.restore(), 10);
    Due.is("ways", full.many(), 10);
    Due.is("twice", full.restore(), 10);
    Due.is("no room", Due.tell(full, "l00111,1;"), -2000);
  }

  private static void restoreRefused() {
    Due.sentence(33, "-3 there is none.");
    HangsTogether x = Due.of(TRIANGLE);
    Due.is("there is none", x.restore(), -3);
    Due.is("lanes", x.count(1), 3);
    Due.is("-3s", x.count(13), 1);
    x.image();
    Due.is("there is one", x.restore(), 3);
  }

  private static void counts() {
    Due.sentence(34, "0 HOUSES, 1 LANES, 2 LANES that MUST be kept, 3 BARRED ones, 4 all COSTS, 5 letters, 6 in the ROW");
    HangsTogether none = Due.of("h2;");
    counted(none, 2, 0, 0, 0, 0, 0, 0);
    HangsTogether x = Due.of("h7;", "l401199,1;", 10);
    for (int lane = 0; lane < 10; lane++) {
      x.rule(lane, lane < 4 ? 1 : 2);
    }
    Due.feed(x, "h3;".repeat(24));
    for (int i = 0; i < 10; i++) {
      x.row(9);
    }
    counted(x, 7, 10, 4, 6, 2180, 72, 10);
    HangsTogether kinds = Due.of("l00119,1;l10119,1;l20119,1;l30119,1;l40119,1;l50119,1;");
    counted(kinds, 3, 6, 0, 0, 9 + 9 + 19 + 9 + 38 + 4, 0, 0);
  }

  private static void counted(HangsTogether x, int... want) {
    for (int what = 0; what < want.length; what++) {
      Due.is("what " + what, x.count(what), want[what]);
    }
  }

  private static void countOfRefusals() {
    Due.sentence(34, "11 .. 16 REFUSALS -1 .. -6.");
    HangsTogether x = new HangsTogether();
    for (int i = 0; i < 40; i++) {
      x.is(1);
      if (i < 30) {
        x.cheap(0, 2);
      }
      if (i < 20) {
        x.takeUp();
      }
      if (i < 10) {
        x.way(-1);
      }
      if (i < 5) {
        x.feed(256);
      }
    }
    int[] want = {40, 30, 20, 10, 0, 5};
    for (int what = 11; what <= 16; what++) {
      Due.is("what " + what, x.count(what), want[what - 11]);
    }
  }

  private static void countOfAnother() {
    Due.sentence(34, "-9 for another what.");
    HangsTogether x = Due.of(TRIANGLE);
    int[] others = {-1, 7, 8, 9, 10, 17, 18, -9, -10, -11, 32, LEAST, LEAST + 9, LEAST + 10, LEAST + 11, GREATEST};
    for (int what : others) {
      Due.is("what " + what, x.count(what), -9);
    }
    Due.is("it is no refusal", Due.refusals(x), 0);
  }

  /** A village with rules, an image of another one, letters and lanes in the row. */
  private static HangsTogether busy() {
    HangsTogether x = Due.of("h4;l00115,10;k0;");
    x.image();
    Due.tell(x, "f0;l11227,20;l20236,5;l32312,3;l30113,3;x4;k1;");
    x.row(1);
    x.row(0);
    Due.feed(x, "h4;k");
    return x;
  }

  private static HangsTogether stuck() {
    HangsTogether x = busy();
    x.rule(3, 2);
    return x;
  }

  private static HangsTogether allTakenUp() {
    HangsTogether x = busy();
    while (x.count(1) > 0) {
      x.takeUp();
    }
    return x;
  }

  private static HangsTogether withoutImage() {
    HangsTogether x = Due.of("h4;l00115,10;k0;");
    x.row(0);
    return x;
  }

  private static HangsTogether fullLetters() {
    HangsTogether x = busy();
    Due.feed(x, "0;" + "h4;".repeat(22));
    return x;
  }

  private static HangsTogether fullRow() {
    HangsTogether x = busy();
    for (int i = 0; i < 8; i++) {
      x.row(2);
    }
    return x;
  }

  private static HangsTogether nineLanes() {
    HangsTogether x = Due.of("h2;", "l00111,50;", 9);
    x.image();
    return x;
  }

  private static HangsTogether sixHouses() {
    HangsTogether x = Due.of("h6;l00511,1;");
    x.image();
    return x;
  }

  /**
   * The call is due this answer; after it all is as on an object on which it was not called, but
   * that there is one refusal more of its number.
   */
  private static void refused(String call, HangsTogether x, HangsTogether twin, Due.Call asked, int number, long answer) {
    Due.is(call, asked.on(x), answer);
    for (int what = 11; what <= 16; what++) {
      Due.is("count " + what + " after " + call, x.count(what), twin.count(what) + (what == 10 - number ? 1 : 0));
    }
    Due.is("all that there is after " + call, allOf(x).equals(allOf(twin)) ? 1 : 0, 1);
  }

  private static String allOf(HangsTogether x) {
    StringBuilder all = new StringBuilder();
    villageOf(x, all);
    for (int drawer = 0; drawer < 6; drawer++) {
      all.append(x.draw(drawer, 5)).append(' ');
    }
    all.append(x.judge()).append(' ').append(x.village()).append(' ');
    villageOf(x, all);
    all.append(x.restore()).append(' ');
    villageOf(x, all);
    return all.toString();
  }

  private static void villageOf(HangsTogether x, StringBuilder all) {
    for (int what = 0; what <= 6; what++) {
      all.append(x.count(what)).append(' ');
    }
    for (int lane = 0; lane < x.count(1); lane++) {
      for (int what = 0; what <= 6; what++) {
        all.append(x.lane(lane, what)).append(' ');
      }
    }
    all.append(x.many()).append(' ').append(x.sum()).append(' ').append(x.way(0)).append(' ');
    all.append(x.cheap(0, 0)).append(' ').append(x.forests(2)).append(' ').append(x.inAll()).append('\n');
  }

  private static void refusedInt(String call, int number, Due.Call asked) {
    refused(call, busy(), busy(), asked, number, number);
  }

  private static void refusedLong(String call, int number, Due.Call asked) {
    refused(call, busy(), busy(), asked, number, Due.L - number);
  }

  private static void refusedInts() {
    Due.sentence(Due.TERMS, "REFUSALS (the call answers the number, the first that fits in the order in which it tells them; nothing changes but how many there were)");
    refusedInt("feed(-1)", BELOW, x -> x.feed(-1));
    refusedInt("feed(256)", ROOM, x -> x.feed(256));
    refusedInt("lane(5, 7)", NOBODY, x -> x.lane(5, 7));
    refusedInt("lane(4, 7)", OTHER, x -> x.lane(4, 7));
    refusedInt("rule(5, 3)", NOBODY, x -> x.rule(5, 3));
    refusedInt("rule(4, 3)", OTHER, x -> x.rule(4, 3));
    refusedInt("is(32)", NOBODY, x -> x.is(32));
    refusedInt("hangs(32)", NOBODY, x -> x.hangs(32));
    refusedInt("parts(-1)", NOBODY, x -> x.parts(-1));
    refusedInt("way(-1)", BELOW, x -> x.way(-1));
    refusedInt("less(0, 0)", NOBODY, x -> x.less(0, 0));
    refusedInt("less(5, 0)", NOBODY, x -> x.less(5, 0));
    refusedInt("cheap(-1, 2)", OTHER, x -> x.cheap(-1, 2));
    refusedInt("cheap(-1, 1)", BELOW, x -> x.cheap(-1, 1));
    refusedInt("nights(0, 0)", STATE, x -> x.nights(0, 0));
    refusedInt("step(0, 0)", STATE, x -> x.step(0, 0));
    refusedInt("forests(0)", BELOW, x -> x.forests(0));
    refusedInt("forests(8)", ROOM, x -> x.forests(8));
    refusedInt("ploughs(0)", NOBODY, x -> x.ploughs(0));
    refusedInt("ploughs(16)", NOBODY, x -> x.ploughs(16));
    refusedInt("plan(0, 2)", OTHER, x -> x.plan(0, 2));
    refusedInt("plan(11, 2)", OTHER, x -> x.plan(11, 2));
    refusedInt("plan(0, 1)", BELOW, x -> x.plan(0, 1));
    refusedInt("plan(7, 1)", ROOM, x -> x.plan(7, 1));
    refusedInt("draw(6, 1)", OTHER, x -> x.draw(6, 1));
    refusedInt("often(6, 5, 0, 1)", OTHER, x -> x.often(6, 5, 0, 1));
    refusedInt("often(5, 5, 0, 1)", NOBODY, x -> x.often(5, 5, 0, 1));
    refusedInt("often(5, 5, 31, 1)", NOBODY, x -> x.often(5, 5, 31, 1));
    refusedInt("often(5, 4, 0, 1)", BELOW, x -> x.often(5, 4, 0, 1));
    refusedInt("often(5, 4, 31, 1)", ROOM, x -> x.often(5, 4, 31, 1));
    refusedInt("row(-1)", BELOW, x -> x.row(-1));
    refusedInt("row(10)", ROOM, x -> x.row(10));
  }

  private static void refusedLongs() {
    Due.sentence(Due.TERMS, "Of longs 4000000000000000000 less them.");
    refusedLong("likely(5, 2)", NOBODY, x -> x.likely(5, 2));
    refusedLong("likely(4, 2)", OTHER, x -> x.likely(4, 2));
    refusedLong("pair(0, 5, 2)", NOBODY, x -> x.pair(0, 5, 2));
    refusedLong("pair(0, 4, 2)", OTHER, x -> x.pair(0, 4, 2));
    refusedLong("toward(4, 2)", NOBODY, x -> x.toward(4, 2));
    refusedLong("toward(3, 2)", OTHER, x -> x.toward(3, 2));
    refusedLong("hard(3, 3, 2)", NOBODY, x -> x.hard(3, 3, 2));
    refusedLong("hard(3, 4, 2)", NOBODY, x -> x.hard(3, 4, 2));
    refusedLong("hard(3, 0, 2)", OTHER, x -> x.hard(3, 0, 2));
    refusedLong("more(3, 3, 2)", NOBODY, x -> x.more(3, 3, 2));
    refusedLong("more(4, 3, 2)", NOBODY, x -> x.more(4, 3, 2));
    refusedLong("more(3, 0, 2)", OTHER, x -> x.more(3, 0, 2));
    refusedLong("holds(2)", OTHER, x -> x.holds(2));
    Due.is("-1", Due.of(TRIANGLE).likely(3, 0), 4000000000000000001L);
    Due.is("-2", Due.of(TRIANGLE).likely(0, 2), 4000000000000000002L);
    Due.is("-3", new HangsTogether().hard(0, 1, 0), 4000000000000000003L);
    Due.is("-6", nineLanes().holds(0), 4000000000000000006L);
  }

  private static void refusedByState() {
    Due.sentence(Due.TERMS, "-3 STATE: it is not as told.");
    refused("takeUp()", allTakenUp(), allTakenUp(), x -> x.takeUp(), STATE, STATE);
    refused("restore()", withoutImage(), withoutImage(), x -> x.restore(), STATE, STATE);
    refused("less(0, 1)", stuck(), stuck(), x -> x.less(0, 1), STATE, STATE);
    refused("likely(0, 1)", stuck(), stuck(), x -> x.likely(0, 1), STATE, Due.L + 3);
    refused("pair(0, 1, 1)", stuck(), stuck(), x -> x.pair(0, 1, 1), STATE, Due.L + 3);
    refused("hard(0, 1, 1)", stuck(), stuck(), x -> x.hard(0, 1, 1), STATE, Due.L + 3);
    refused("more(0, 1, 1)", stuck(), stuck(), x -> x.more(0, 1, 1), STATE, Due.L + 3);
    refused("nights(7, 7)", stuck(), stuck(), x -> x.nights(7, 7), STATE, STATE);
  }

  private static void refusedByRoom() {
    Due.sentence(Due.TERMS, "-6 ROOM: a number above the greatest, no room.");
    refused("feed('h') of 72", fullLetters(), fullLetters(), x -> x.feed('h'), ROOM, ROOM);
    refused("row(3) of 10", fullRow(), fullRow(), x -> x.row(3), ROOM, ROOM);
    refused("holds(0) of nine lanes", nineLanes(), nineLanes(), x -> x.holds(0), ROOM, Due.L + 6);
    refused("plan(5, 0) of six houses", sixHouses(), sixHouses(), x -> x.plan(5, 0), ROOM, ROOM);
    Due.sentence(Due.TERMS, "-4 BELOW: a number below the least.");
    refused("feed(-1) of 72", fullLetters(), fullLetters(), x -> x.feed(-1), BELOW, BELOW);
    refused("row(-1) of 10", fullRow(), fullRow(), x -> x.row(-1), BELOW, BELOW);
    refused("plan(0, 0) of six houses", sixHouses(), sixHouses(), x -> x.plan(0, 0), BELOW, BELOW);
  }

  private static void countedByNumber() {
    Due.sentence(Due.TERMS, "-1 NOBODY: no such HOUSE, LANE. -2 OTHER: what, DRAWER.");
    HangsTogether x = Due.of(TRIANGLE);
    x.toward(3, 0);
    x.ploughs(8);
    x.lane(3, 0);
    x.is(8);
    Due.is("houses and lanes", x.count(11), 4);
    x.lane(0, 7);
    x.draw(6, 1);
    x.holds(2);
    Due.is("whats, drawers and parts", x.count(12), 3);
    Due.is("no others", Due.refusals(x), 7);
  }
}
