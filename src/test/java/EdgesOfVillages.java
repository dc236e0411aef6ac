/** What the document says of a village's edges: houses, lanes, letters and faults (promises 1 to 6). */
final class EdgesOfVillages {
  private static final int LEAST = Integer.MIN_VALUE;
  private static final int GREATEST = Integer.MAX_VALUE;
  private static final String LANE = "l00111,1;";
  private static final String SEVEN_LANES = LANE + LANE + LANE + LANE + LANE + LANE + LANE;

  private EdgesOfVillages() {
  }

  static void run() {
    newObject();
    lastCall();
    feed();
    manyStatements();
    lettersAreNoMore();
    houses();
    housesToldOf();
    room();
    unlikeHouses();
    kinds();
    weights();
    costs();
    drifts();
    rulesInLetters();
    wrongLetters();
    lackingLetters();
    formGoesFirst();
    firstWrongStatement();
    allOrNothing();
    lane();
    rule();
    takeUp();
    takenUpIsNoMore();
  }

  private static void newObject() {
    Due.sentence(1, "Three HOUSES, no LANES.");
    HangsTogether x = new HangsTogether();
    Due.is("houses", x.count(0), 3);
    Due.is("lanes", x.count(1), 0);
    Due.is("house 2", x.toward(2, 0), 0);
    Due.is("house 3", x.toward(3, 0), Due.L + 1);
    Due.is("lane 0", x.lane(0, 0), -1);
    Due.is("no bits of lanes", x.parts(0), 3);
    Due.is("the first bit", x.parts(1), -1);
    HangsTogether y = new HangsTogether();
    for (int what = 1; what <= 16; what++) {
      Due.is("count " + what, y.count(what), what > 6 && what < 11 ? -9 : 0);
    }
    Due.is("letters", y.village(), -1000);
    Due.is("the row", y.judge(), 0);
    Due.is("an image", y.restore(), -3);
    Due.of("h7;" + LANE);
    Due.is("another object is another village", new HangsTogether().count(0) * 10 + new HangsTogether().count(1), 30);
    Due.sentence(Due.TERMS, "HOUSES 0 .. (2 .. 7 of them; 3 at first)");
    Due.is("at first", new HangsTogether().count(0), 3);
  }

  private static void lastCall() {
    Due.sentence(Due.TERMS, "An object is used for at most 512 calls after it has been made");
    HangsTogether x = new HangsTogether();
    for (int call = 1; call < 512; call++) {
      x.way(-1);
    }
    Due.is("the 512th call", x.count(14), 511);
    HangsTogether y = new HangsTogether();
    for (int call = 1; call < 512; call++) {
      y.feed(call % 2 == 0 ? -1 : 300);
    }
    Due.is("the 512th call", y.village(), -1000);
  }

  private static void feed() {
    Due.sentence(2, "A letter comes: how many there are.");
    HangsTogether x = new HangsTogether();
    Due.is("the first", x.feed('h'), 1);
    Due.is("the second", x.feed('h'), 2);
    x.village();
    Due.is("the first again", x.feed('h'), 1);
    Due.sentence(2, "-4; -6 (255; 72, too)");
    HangsTogether y = new HangsTogether();
    Due.is("0", y.feed(0), 1);
    Due.is("-1", y.feed(-1), -4);
    Due.is("the least", y.feed(LEAST), -4);
    Due.is("255", y.feed(255), 2);
    Due.is("256", y.feed(256), -6);
    Due.is("256 and an h", y.feed(256 + 'h'), -6);
    Due.is("the greatest", y.feed(GREATEST), -6);
    Due.is("refused ones did not come", y.count(5), 2);
    Due.sentence(Due.TERMS, "A VILLAGE is told in letters, one by one (72 at most)");
    HangsTogether z = new HangsTogether();
    Due.is("71 letters", Due.feed(z, "h3;".repeat(23) + "h3"), 71);
    Due.is("the 72nd", z.feed(';'), 72);
    Due.is("the 73rd", z.feed(';'), -6);
    Due.is("the 73rd, above 255", z.feed(256), -6);
    Due.is("the 73rd, below 0", z.feed(-1), -4);
    Due.is("letters", z.count(5), 72);
    Due.is("these 72 are a village", z.village(), 24);
    Due.is("there is room again", z.feed('h'), 1);
    HangsTogether w = new HangsTogether();
    w.feed('h');
    w.feed(-1);
    w.feed('2');
    w.feed(256);
    w.feed(';');
    Due.is("refused letters are not among them", w.village(), 1);
    Due.is("houses", w.count(0), 2);
  }

  private static void manyStatements() {
    Due.sentence(3, "how many STATEMENTS");
    Due.is("one", Due.tell(new HangsTogether(), "h2;"), 1);
    Due.is("two", Due.tell(new HangsTogether(), "h2;h2;"), 2);
    Due.is("as many as 72 letters can be", Due.tell(new HangsTogether(), "h2;".repeat(24)), 24);
    Due.is("seven lanes", Due.tell(new HangsTogether(), SEVEN_LANES), 7);
    Due.sentence(Due.TERMS, "At least one STATEMENT.");
    HangsTogether x = new HangsTogether();
    Due.is("none", x.village(), -1000);
    Due.is("none, once more", x.village(), -1000);
    Due.is("a lone ;", Due.tell(x, ";"), -1000);
  }

  private static void lettersAreNoMore() {
    Due.sentence(3, "The letters, which are no more then, are a VILLAGE");
    String[] texts = {"h4;", "h4;z", "h9;", "h4"};
    int[] answers = {1, -1003, -2000, -1002};
    for (int i = 0; i < texts.length; i++) {
      HangsTogether x = new HangsTogether();
      Due.is(texts[i], Due.tell(x, texts[i]), answers[i]);
      Due.is("letters after " + texts[i], x.count(5), 0);
      Due.is("the first after " + texts[i], x.feed('h'), 1);
      Due.is("the village after " + texts[i], Due.tell(x, "5;"), 1);
    }
    Due.sentence(3, "the FAULT (nothing is counted)");
    HangsTogether x = new HangsTogether();
    Due.is("kind 1", Due.tell(x, "z"), -1000);
    Due.is("kind 2", Due.tell(x, "k0;"), -2000);
    Due.is("counted", Due.refusals(x), 0);
  }

  private static void houses() {
    Due.sentence(Due.TERMS, "\"h\" HOUSES (a digit;");
    for (int many = 0; many <= 9; many++) {
      HangsTogether x = new HangsTogether();
      boolean can = many >= 2 && many <= 7;
      Due.is("h" + many, Due.tell(x, "h" + many + ";"), can ? 1 : -2000);
      Due.is("houses of h" + many, x.count(0), can ? many : 3);
    }
    Due.is("two digits", Due.tell(new HangsTogether(), "h02;"), -1002);
    Due.is("the least after the greatest", Due.of("h7;h2;").count(0), 2);
    Due.is("the greatest after the least", Due.of("h2;h7;").count(0), 7);
    Due.is("fewer than at first", Due.of("h2;").count(0), 2);
  }

  private static void housesToldOf() {
    Due.sentence(Due.TERMS, "not fewer than are told of already)");
    for (int far = 1; far <= 6; far++) {
      toldOf("l00" + far + "11,1;", far);
      toldOf("l3" + far + "011,1;", far);
    }
    Due.is("in one text", Due.tell(new HangsTogether(), "h7;l06511,1;h6;"), -2012);
    Due.is("in one text, as many", Due.tell(new HangsTogether(), "h7;l06511,1;h7;"), 3);
    HangsTogether x = Due.of("h5;l00411,1;x0;");
    Due.is("a barred lane tells of it, too", Due.tell(x, "h4;"), -2000);
    x.image();
    x.takeUp();
    Due.is("no lane tells of it", Due.tell(x, "h4;"), 1);
    Due.is("the image's lane", x.restore(), 1);
    Due.is("tells of it again", Due.tell(x, "h4;"), -2000);
    Due.is("the farthest, not the latest", Due.tell(x, "l00111,1;h4;"), -2009);
  }

  private static void toldOf(String lane, int far) {
    HangsTogether x = Due.of("h7;", lane);
    Due.is("as many as " + lane + " tells of", Due.tell(x, "h" + Math.max(2, far + 1) + ";"), 1);
    Due.is("one fewer than " + lane + " tells of", Due.tell(x, "h" + far + ";"), -2000);
    Due.is("houses after " + lane, x.count(0), Math.max(2, far + 1));
  }

  private static void room() {
    Due.sentence(Due.TERMS, "LANES (10 at most, in the order in which they come)");
    HangsTogether x = Due.of(SEVEN_LANES, LANE + LANE);
    Due.is("the tenth", Due.tell(x, "l01221,1;"), 1);
    Due.is("lanes", x.count(1), 10);
    Due.is("the eleventh", Due.tell(x, LANE), -2000);
    Due.is("lanes", x.count(1), 10);
    Due.is("the tenth is lane 9", x.lane(9, 2), 2);
    Due.is("lane 8 came before it", x.lane(8, 2), 1);
    Due.is("one less", x.takeUp(), 9);
    Due.is("room for one, not for two", Due.tell(x, LANE + LANE), -2009);
    Due.is("lanes", x.count(1), 9);
    Due.is("room for one", Due.tell(x, LANE), 1);
    Due.is("what is no lane has room", Due.tell(x, "h7;k9;"), 2);
  }

  private static void unlikeHouses() {
    Due.sentence(Due.TERMS, "between two unlike HOUSES, FROM and TO (several may be between the same two)");
    for (int house = 0; house < 7; house++) {
      Due.is("from " + house + " to itself", Due.tell(Due.of("h7;"), "l0" + house + house + "11,1;"), -2000);
    }
    HangsTogether x = Due.of("l00111,1;l00111,1;l01011,1;");
    Due.is("the same two", x.count(1), 3);
    Due.is("each is a way more, but for house 2", Due.of("h2;l00111,1;l00111,1;l01011,1;").many(), 3);
    Due.sentence(Due.TERMS, "what is not there");
    for (int houses = 2; houses <= 7; houses++) {
      HangsTogether y = Due.of("h" + houses + ";");
      Due.is("to the last of " + houses, Due.tell(y, "l00" + (houses - 1) + "11,1;"), 1);
      Due.is("from the last of " + houses, Due.tell(y, "l0" + (houses - 1) + "011,1;"), 1);
      Due.is("to one beyond " + houses, Due.tell(y, "l00" + houses + "11,1;"), -2000);
      Due.is("from one beyond " + houses, Due.tell(y, "l0" + houses + "011,1;"), -2000);
      Due.is("to the farthest digit", Due.tell(y, "l00911,1;"), -2000);
    }
    Due.is("houses that come ahead are there", Due.tell(new HangsTogether(), "h4;l00311,1;"), 2);
    Due.is("houses that come behind are not", Due.tell(new HangsTogether(), "l00311,1;h4;"), -2000);
  }

  private static void kinds() {
    Due.sentence(Due.TERMS, "of KINDS: 0 LANE; 1 DOUBLE under LANE; 2 TOLL under LANE; 3 ONE under LANE; 4 SNOWY under TOLL; 5 WIDE under DOUBLE");
    for (int kind = 0; kind <= 9; kind++) {
      HangsTogether x = new HangsTogether();
      Due.is("kind " + kind, Due.tell(x, "l" + kind + "0111,1;"), kind <= 5 ? 1 : -2000);
      Due.is("its kind", x.lane(0, 0), kind <= 5 ? kind : -1);
    }
  }

  private static void weights() {
    Due.sentence(Due.TERMS, "with a w (1 .. 4)");
    for (int w = 0; w <= 9; w++) {
      Due.is("w " + w, Due.tell(new HangsTogether(), "l001" + w + "1,1;"), w >= 1 && w <= 4 ? 1 : -2000);
    }
    Due.sentence(Due.TERMS, "WEIGHT of a LANE: LANE w; DOUBLE twice a LANE's; TOLL, ONE, SNOWY as a LANE; WIDE a DOUBLE's and 1.");
    int[] least = {1, 2, 1, 1, 1, 3};
    int[] greatest = {4, 8, 4, 4, 4, 9};
    for (int kind = 0; kind <= 5; kind++) {
      HangsTogether x = Due.of("l" + kind + "0111,1;l" + kind + "0141,1;");
      Due.is("the least of kind " + kind, x.lane(0, 3), least[kind]);
      Due.is("the greatest of kind " + kind, x.lane(1, 3), greatest[kind]);
    }
  }

  private static void costs() {
    Due.sentence(Due.TERMS, "a c (0 .. 99), a d (0 .. 99)");
    HangsTogether edges = Due.of("l00110,99;l001199,0;");
    Due.is("c 0", edges.lane(0, 4), 0);
    Due.is("d 99", edges.lane(0, 5), 99);
    Due.is("c 99", edges.lane(1, 4), 99);
    Due.is("d 0", edges.lane(1, 5), 0);
    Due.sentence(Due.TERMS, "c (1 or 2 digits)");
    String[] texts = {"0", "9", "00", "09", "10", "99"};
    int[] costs = {0, 9, 0, 9, 10, 99};
    for (int i = 0; i < texts.length; i++) {
      HangsTogether x = new HangsTogether();
      Due.is("c " + texts[i], Due.tell(x, "l0011" + texts[i] + ",1;"), 1);
      Due.is("its cost", x.lane(0, 4), costs[i]);
    }
    Due.is("no digit", Due.tell(new HangsTogether(), "l0011,1;"), -1005);
    Due.is("3 digits", Due.tell(new HangsTogether(), "l0011100,1;"), -1007);
    Due.sentence(Due.TERMS, "COST: LANE c; DOUBLE as a LANE; TOLL a LANE's and 10; ONE as a LANE; SNOWY twice a TOLL's; WIDE half of a DOUBLE's, cut.");
    int[][] due = {{0, 1, 99}, {0, 1, 99}, {10, 11, 109}, {0, 1, 99}, {20, 22, 218}, {0, 0, 49}};
    for (int kind = 0; kind <= 5; kind++) {
      String head = "l" + kind + "011";
      HangsTogether x = Due.of(head + "0,1;" + head + "1,1;" + head + "99,1;");
      for (int lane = 0; lane < 3; lane++) {
        Due.is("kind " + kind + ", lane " + lane, x.lane(lane, 4), due[kind][lane]);
      }
    }
  }

  private static void drifts() {
    Due.sentence(Due.TERMS, "\",\" d (1 or 2 digits)");
    String[] texts = {"0", "9", "00", "09", "10", "99"};
    int[] drifts = {0, 9, 0, 9, 10, 99};
    for (int i = 0; i < texts.length; i++) {
      HangsTogether x = new HangsTogether();
      Due.is("d " + texts[i], Due.tell(x, "l00111," + texts[i] + ";"), 1);
      Due.is("its drift", x.lane(0, 5), drifts[i]);
    }
    Due.is("no digit", Due.tell(new HangsTogether(), "l00111,;"), -1007);
    Due.is("3 digits", Due.tell(new HangsTogether(), "l00111,100;"), -1009);
    Due.sentence(Due.TERMS, "DRIFT (in hundredths): LANE d; SNOWY 20 more, 99 at most; others as a LANE.");
    int[] told = {0, 78, 79, 80, 99};
    int[] snowy = {20, 98, 99, 99, 99};
    for (int kind = 0; kind <= 5; kind++) {
      HangsTogether x = new HangsTogether();
      for (int lane = 0; lane < told.length; lane++) {
        Due.tell(x, "l" + kind + "0111," + told[lane] + ";");
        Due.is("kind " + kind + " d " + told[lane], x.lane(lane, 5), kind == 4 ? snowy[lane] : told[lane]);
      }
    }
  }

  private static void rulesInLetters() {
    Due.sentence(Due.TERMS, "A LANE is FREE (at first), MUST be kept, or BARRED.");
    HangsTogether x = Due.of(LANE);
    Due.is("at first", x.lane(0, 6), 0);
    Due.sentence(Due.TERMS, "\"k\" a digit (a LANE): it MUST be kept; \"x\" a digit: it is BARRED; \"f\" a digit: it is FREE.");
    String[] letters = {"f", "k", "x"};
    for (int as = 0; as < 3; as++) {
      Due.is("none is there", Due.tell(new HangsTogether(), letters[as] + "0;"), -2000);
      HangsTogether y = Due.of(SEVEN_LANES, LANE + LANE);
      Due.is("the first", Due.tell(y, letters[as] + "0;"), 1);
      Due.is("the last", Due.tell(y, letters[as] + "8;"), 1);
      Due.is("one beyond", Due.tell(y, letters[as] + "9;"), -2000);
      Due.is("as told", y.lane(0, 6) * 10 + y.lane(8, 6), as * 11);
      Due.is("the others", y.lane(1, 6) + y.lane(7, 6), 0);
      Due.is("one that comes ahead", Due.tell(y, LANE + letters[as] + "9;"), 2);
      Due.is("as told", y.lane(9, 6), as);
      Due.is("one that comes behind", Due.tell(new HangsTogether(), letters[as] + "0;" + LANE), -2000);
    }
    Due.is("the last word", Due.of(LANE + "k0;x0;k0;").lane(0, 6), 1);
    Due.is("the last word", Due.of(LANE + "k0;x0;").lane(0, 6), 2);
    Due.is("the last word", Due.of(LANE + "x0;f0;").lane(0, 6), 0);
    Due.is("two digits", Due.tell(Due.of(LANE), "k00;"), -1002);
  }

  /** Each letter of a whole lane becomes one that cannot stand there. */
  private static void wrongLetters() {
    Due.sentence(Due.TERMS, "kind 1 the place of the first letter with which no VILLAGE can go on");
    String whole = "l001159,12;h";
    int[] wrong = {0, '/', ':', ' ', 'L', 'a', 127, 255};
    for (int place = 0; place < whole.length(); place++) {
      for (int letter : wrong) {
        HangsTogether x = Due.of("h4;");
        Due.feed(x, whole.substring(0, place));
        x.feed(letter);
        Due.feed(x, "z;");
        Due.is("letter " + letter + " at " + place, x.village(), -1000 - place);
      }
    }
    String[] texts = {"hh", "h,", "h;", "h3h", "h33", "h3,", "h3;;", "h3;3", "k,", "k0k", "x0x", "f0,", "k;", "x-1;",
        "l;", "l0,", "l00,", "l001,", "l0011,", "l00111;", "l001111;", "l0011111", "l00111,,", "l00111,;",
        "l00111,1,", "l00111,11,", "l00111,111", "l00111,1h", ",", "0", "3;", "H3;", "L00111,1;", "h3;K0;"};
    int[] places = {1, 1, 1, 2, 2, 2, 3, 3, 1, 2, 2, 2, 1, 1,
        1, 2, 3, 4, 5, 6, 7, 7, 7, 7,
        8, 9, 9, 8, 0, 0, 0, 0, 0, 3};
    for (int i = 0; i < texts.length; i++) {
      Due.is(texts[i], Due.tell(Due.of("h3;" + LANE), texts[i]), -1000 - places[i]);
    }
    Due.is("the last of 72", Due.tell(new HangsTogether(), "h3;".repeat(23) + "h3,"), -1071);
    Due.is("the first of several", Due.tell(new HangsTogether(), "h3;a;b;c"), -1003);
  }

  private static void lackingLetters() {
    Due.sentence(Due.TERMS, "(the end, if something lacks): -1000 less the place");
    String whole = "l001159,12;h3;k0;x0;f0;";
    for (int length = 0; length <= whole.length(); length++) {
      boolean ends = length > 0 && whole.charAt(length - 1) == ';';
      int told = (int) whole.substring(0, length).chars().filter(letter -> letter == ';').count();
      Due.is("up to " + length, Due.tell(new HangsTogether(), whole.substring(0, length)), ends ? told : -1000 - length);
    }
    String short72 = "h3;".repeat(23) + "l00";
    Due.is("72 letters, something lacks", Due.tell(new HangsTogether(), short72), -1072);
    Due.is("71 letters, something lacks", Due.tell(new HangsTogether(), short72.substring(0, 71)), -1071);
    Due.is("70 letters, something lacks", Due.tell(new HangsTogether(), short72.substring(0, 70)), -1070);
    Due.is("69 letters, nothing lacks", Due.tell(new HangsTogether(), short72.substring(0, 69)), 23);
  }

  private static void formGoesFirst() {
    Due.sentence(Due.TERMS, "else kind 2 the place of the first letter of the first STATEMENT that is not as it must be (a number out of range, what is not there, no room): -2000 less the place");
    Due.is("a number, then form", Due.tell(new HangsTogether(), "h9;h"), -1004);
    Due.is("what is not there, then form", Due.tell(new HangsTogether(), "k0;z"), -1003);
    HangsTogether full = Due.of(SEVEN_LANES, LANE + LANE + LANE);
    Due.is("no room, then form", Due.tell(full, LANE + ";"), -1009);
    Due.is("no room", Due.tell(full, "h3;" + LANE), -2003);
    Due.is("a number", Due.tell(full, "h3;h8;"), -2003);
    Due.is("what is not there", Due.tell(Due.of("h3;"), "h3;f0;"), -2003);
    Due.is("the last statement of 72 letters", Due.tell(new HangsTogether(), "h3;".repeat(23) + "k0;"), -2069);
  }

  private static void firstWrongStatement() {
    Due.sentence(Due.TERMS, "the first STATEMENT that is not as it must be");
    Due.is("the first of three", Due.tell(new HangsTogether(), "h1;h8;k0;"), -2000);
    Due.is("the second", Due.tell(new HangsTogether(), "h2;h8;k0;"), -2003);
    Due.is("behind a long one", Due.tell(new HangsTogether(), "l001199,99;h8;k5;"), -2011);
    Due.is("its first letter, not the wrong one", Due.tell(new HangsTogether(), "h3;l001599,99;"), -2003);
    Due.is("a lane that stays away is not there", Due.tell(new HangsTogether(), LANE + "k0;k1;"), -2012);
  }

  private static void allOrNothing() {
    Due.sentence(Due.TERMS, "Without FAULT all of it comes, with one nothing.");
    String[] faults = {"h5;z", "h5;" + LANE + "k0", "h5;" + LANE + "x0;k0;h8;", "k0;x0;f9;", LANE + "l00011,1;", "h6;k9;"};
    for (String text : faults) {
      HangsTogether x = Due.of("h4;l00312,3;k0;");
      Due.is(text, Due.tell(x, text) < 0 ? 1 : 0, 1);
      Due.is("houses after " + text, x.count(0), 4);
      Due.is("lanes after " + text, x.count(1), 1);
      Due.is("rule after " + text, x.lane(0, 6), 1);
      Due.is("parts after " + text, x.parts(1), 3);
      Due.is("forests after " + text, x.forests(3), 1);
    }
    HangsTogether x = Due.of("h4;l00312,3;k0;");
    Due.is("all of it", Due.tell(x, "h5;l04312,3;f0;x1;"), 4);
    Due.is("houses", x.count(0), 5);
    Due.is("lanes", x.count(1), 2);
    Due.is("rules", x.lane(0, 6) * 10 + x.lane(1, 6), 2);
    Due.is("parts", x.parts(3), 3);
  }

  private static void lane() {
    Due.sentence(4, "KIND (what 0), FROM (1), TO (2), WEIGHT (3), COST (4), DRIFT (5), 0 FREE, 1 MUST, 2 BARRED (6).");
    HangsTogether x = Due.of("h7;l452198,77;l506415,0;x1;");
    int[][] want = {{4, 5, 2, 1, 216, 97, 0}, {5, 0, 6, 9, 7, 0, 2}};
    for (int lane = 0; lane < 2; lane++) {
      for (int what = 0; what < 7; what++) {
        Due.is("lane " + lane + " what " + what, x.lane(lane, what), want[lane][what]);
      }
    }
    x.rule(1, 1);
    Due.is("MUST", x.lane(1, 6), 1);
    Due.sentence(4, "-1; -2.");
    Due.is("-1", x.lane(-1, 0), -1);
    Due.is("2 of 2", x.lane(2, 0), -1);
    Due.is("the least", x.lane(LEAST, 0), -1);
    Due.is("the greatest", x.lane(GREATEST, 0), -1);
    Due.is("what -1", x.lane(0, -1), -2);
    Due.is("what 7", x.lane(0, 7), -2);
    Due.is("the least what", x.lane(0, LEAST), -2);
    Due.is("the greatest what", x.lane(0, GREATEST), -2);
    Due.is("both", x.lane(2, 7), -1);
    HangsTogether full = Due.of("h2;", LANE, 10);
    Due.is("the tenth", full.lane(9, 3), 1);
    Due.is("the eleventh", full.lane(10, 3), -1);
  }

  private static void rule() {
    Due.sentence(5, "It is FREE (0), MUST (1), BARRED (2): what it was.");
    for (int from = 0; from < 3; from++) {
      for (int to = 0; to < 3; to++) {
        HangsTogether x = Due.of("h2;" + LANE + LANE);
        x.rule(1, from);
        Due.is(from + " to " + to, x.rule(1, to), from);
        Due.is("as told", x.lane(1, 6), to);
        Due.is("the other", x.lane(0, 6), 0);
        Due.is("must", x.count(2), to == 1 ? 1 : 0);
        Due.is("barred", x.count(3), to == 2 ? 1 : 0);
        Due.is("ways", x.many(), to == 0 ? 2 : 1);
      }
    }
    Due.sentence(5, "-1; -2.");
    HangsTogether x = Due.of(LANE);
    Due.is("-1", x.rule(-1, 1), -1);
    Due.is("1 of 1", x.rule(1, 1), -1);
    Due.is("the least", x.rule(LEAST, 1), -1);
    Due.is("the greatest", x.rule(GREATEST, 1), -1);
    Due.is("32, which wraps a bit", x.rule(32, 1), -1);
    Due.is("as -1", x.rule(0, -1), -2);
    Due.is("as 3", x.rule(0, 3), -2);
    Due.is("the least as", x.rule(0, LEAST), -2);
    Due.is("the greatest as", x.rule(0, GREATEST), -2);
    Due.is("both", x.rule(1, 3), -1);
    Due.is("it is as it was", x.lane(0, 6), 0);
    Due.is("no lanes", new HangsTogether().rule(0, 0), -1);
  }

  private static void takeUp() {
    Due.sentence(6, "The latest LANE is no more: how many are left.");
    HangsTogether x = Due.of("h7;", LANE, 9);
    Due.tell(x, "l56541,1;k9;x8;");
    for (int left = 9; left >= 0; left--) {
      Due.is("left", x.takeUp(), left);
      Due.is("lanes", x.count(1), left);
      Due.is("the latest", x.lane(left, 0), -1);
      Due.is("must", x.count(2), 0);
      Due.is("barred", x.count(3), left == 9 ? 1 : 0);
      Due.is("all costs", x.count(4), left);
    }
    Due.is("houses stay", x.count(0), 7);
    Due.sentence(6, "-3 there is none.");
    Due.is("there is none", x.takeUp(), -3);
    Due.is("there is none", x.takeUp(), -3);
    Due.is("-3s", x.count(13), 2);
    Due.is("a new one", Due.tell(x, LANE), 1);
    Due.is("is free", x.lane(0, 6), 0);
    Due.is("none left", x.takeUp(), 0);
    HangsTogether y = Due.of(LANE + LANE + "k0;k1;");
    y.takeUp();
    Due.tell(y, LANE);
    Due.is("its rule went with it", y.lane(0, 6) * 10 + y.lane(1, 6), 10);
  }

  private static void takenUpIsNoMore() {
    Due.sentence(6, "The latest LANE is no more");
    asIfItNeverCame("h2;l00112,5;", "l00143,6;");
    asIfItNeverCame("h3;l00112,5;l01223,6;", "l02044,8;");
    asIfItNeverCame("h4;l00112,5;l01223,6;l02331,7;", "l03044,8;");
  }

  /** Once its latest lane is taken up, a village is as one to which that lane never came. */
  private static void asIfItNeverCame(String kept, String taken) {
    HangsTogether x = Due.of(kept, taken);
    HangsTogether never = Due.of(kept);
    int lanes = never.count(1);
    int houses = never.count(0);
    int all = (1 << lanes) - 1;
    Due.is("left", x.takeUp(), lanes);
    for (int k = 1; k <= houses; k++) {
      Due.is("forests " + k, x.forests(k), never.forests(k));
    }
    for (int told = 1; told < 1 << houses; told++) {
      Due.is("ploughs " + told, x.ploughs(told), never.ploughs(told));
    }
    for (int part = 0; part < 2; part++) {
      for (int house = 1; house < houses; house++) {
        Due.is("hard 0 " + house, x.hard(0, house, part), never.hard(0, house, part));
        Due.is("more 0 " + house, x.more(0, house, part), never.more(0, house, part));
        Due.is("toward " + house, x.toward(house, part), never.toward(house, part));
      }
      Due.is("holds", x.holds(part), never.holds(part));
    }
    Due.is("ways", x.many(), 1);
    Due.is("the cheapest", x.cheap(0, 0), all);
    Due.is("in all", x.inAll(), all);
    Due.is("its bit", x.hangs(1 << lanes), -1);
    for (int z = 0; z < 10; z++) {
      Due.is("a walk", x.draw(0, z), all);
    }
  }
}
