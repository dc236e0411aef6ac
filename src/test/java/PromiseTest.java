/** Each promise by small villages that can be reckoned by hand, its edges, and what it refuses. */
public final class PromiseTest {
  private static final long L = 4000000000000000000L;
  /** Ways 3 (worth 2, cost 12), 5 (worth 3, cost 11), 6 (worth 6, cost 13). */
  private static final String TRIANGLE = "l00115,10;l01227,20;l00236,5;";
  private static int wrong = 0;
  private static int asked = 0;
  private static String promise = "";

  public static void main(String[] args) {
    promise1();
    promise2();
    promise3Form();
    promise3Sense();
    promise3Effect();
    promise4();
    promise5();
    promise6();
    promise7To9();
    promise10To12();
    promise13To15();
    promise16And17();
    promise18();
    promise19And20();
    promise21();
    promise22And23();
    promise24And25();
    promise26();
    promise27();
    promise28();
    promise29();
    promise30And31();
    promise32And33();
    promise34();
    System.out.println(asked + " answers, " + wrong + " wrong");
    if (wrong > 0) {
      System.exit(1);
    }
  }

  private static void due(String call, long got, long want) {
    asked++;
    if (got != want) {
      wrong++;
      System.out.println(promise + ": " + call + " answered " + got + ", due is " + want);
    }
  }

  private static int tell(HangsTogether x, String text) {
    for (int i = 0; i < text.length(); i++) {
      x.feed(text.charAt(i));
    }
    return x.village();
  }

  private static HangsTogether of(String... texts) {
    HangsTogether x = new HangsTogether();
    for (String text : texts) {
      int told = tell(x, text);
      if (told <= 0) {
        wrong++;
        System.out.println(promise + ": \"" + text + "\" answered " + told);
      }
    }
    return x;
  }

  private static void promise1() {
    promise = "1 a new object";
    HangsTogether x = new HangsTogether();
    due("houses", x.count(0), 3);
    due("parts", x.parts(0), 3);
    due("does not hang", x.hangs(0), 0);
    due("no way", x.many() + x.is(0), 0);
    due("one forest without lanes", x.forests(3), 1);
    due("each house has its plough", x.ploughs(7), 1);
    for (int what = 1; what <= 6; what++) {
      due("count " + what, x.count(what), 0);
    }
    for (int what = 11; what <= 16; what++) {
      due("count " + what, x.count(what), 0);
    }
    due("restore", x.restore(), -3);
  }

  private static void promise2() {
    promise = "2 feed";
    HangsTogether x = new HangsTogether();
    due("0", x.feed(0), 1);
    due("255", x.feed(255), 2);
    due("-1", x.feed(-1), -4);
    due("256", x.feed(256), -6);
    due("least", x.feed(Integer.MIN_VALUE), -4);
    due("greatest", x.feed(Integer.MAX_VALUE), -6);
    due("letters", x.count(5), 2);
    for (int i = 3; i <= 72; i++) {
      due("letter " + i, x.feed('h'), i);
    }
    due("a letter too many", x.feed('h'), -6);
    due("below, though there is no room", x.feed(-1), -4);
    due("letters", x.count(5), 72);
    due("-4s", x.count(14), 3);
    due("-6s", x.count(16), 3);
  }

  private static void form(String text, int place) {
    HangsTogether x = of(TRIANGLE);
    due("\"" + text + "\"", tell(x, text), -1000 - place);
    due("no letters after \"" + text + "\"", x.count(5), 0);
    due("as before \"" + text + "\"", x.count(0) * 10 + x.count(1), 33);
    due("nothing counted by \"" + text + "\"", x.count(14) + x.count(16) + x.count(11), 0);
  }

  private static void promise3Form() {
    promise = "3 village, form";
    form("", 0);
    form(";", 0);
    form("z", 0);
    form("H4;", 0);
    form("h", 1);
    form("h;", 1);
    form("hh", 1);
    form("h4", 2);
    form("h44;", 2);
    form("h4;;", 3);
    form("h4;h", 4);
    form("h4; h5;", 3);
    form("k", 1);
    form("k,", 1);
    form("x0,", 2);
    form("f0", 2);
    form("l", 1);
    form("l0", 2);
    form("l00", 3);
    form("l001", 4);
    form("l0011", 5);
    form("l0011,", 5);
    form("l00115", 6);
    form("l00115;", 6);
    form("l001155", 7);
    form("l0011555", 7);
    form("l00115,", 7);
    form("l00115,;", 7);
    form("l00115,1", 8);
    form("l00115,1,", 8);
    form("l00115,12", 9);
    form("l00115,123;", 9);
    form("l001155,12", 10);
    form("h9;l99990,0;z", 12);
    form("h9;k", 4);
    form("l00115,1" + (char) 0xb2 + ";", 8);
  }

  private static void sense(String before, String text, int place) {
    HangsTogether x = of(before);
    int was = x.count(0) * 100000 + x.count(1) * 10000 + x.count(2) * 1000 + x.count(3) * 100;
    due("\"" + text + "\"", tell(x, text), -2000 - place);
    int is = x.count(0) * 100000 + x.count(1) * 10000 + x.count(2) * 1000 + x.count(3) * 100;
    due("nothing came of \"" + text + "\"", is, was);
    due("no letters after \"" + text + "\"", x.count(5), 0);
  }

  private static void promise3Sense() {
    promise = "3 village, sense";
    sense("h4;", "h0;", 0);
    sense("h4;", "h1;", 0);
    sense("h4;", "h8;", 0);
    sense("h4;", "h9;", 0);
    sense("h4;l00311,1;", "h3;", 0);
    sense("h4;l03011,1;", "h3;", 0);
    sense("h2;", "h5;l04311,1;h4;", 12);
    sense("h4;", "l60111,1;", 0);
    sense("h4;", "l90111,1;", 0);
    sense("h4;", "l00411,1;", 0);
    sense("h4;", "l04011,1;", 0);
    sense("h4;", "l00011,1;", 0);
    sense("h4;", "l00101,1;", 0);
    sense("h4;", "l00151,1;", 0);
    sense("h4;", "k0;", 0);
    sense("h4;", "x0;", 0);
    sense("h4;", "f0;", 0);
    sense("h4;l00111,1;", "k0;k1;", 3);
    sense("h4;l00111,1;", "x0;f9;h9;", 3);
    sense("h4;l00111,1;", "h5;l00411,1;k1;x2;", 15);
    String four = "l00111,1;l00111,1;l00111,1;l00111,1;";
    HangsTogether x = of(four, four);
    due("no room", tell(x, "l00111,1;l00111,1;l00111,1;"), -2018);
    due("lanes", x.count(1), 8);
    due("room for two", tell(x, "l00111,1;l00111,1;"), 2);
    due("no room", tell(x, "l00111,1;"), -2000);
    due("the tenth", tell(x, "k9;"), 1);
  }

  private static void promise3Effect() {
    promise = "3 village, effect";
    HangsTogether x = new HangsTogether();
    due("fewer than at first", tell(x, "h2;"), 1);
    due("houses", x.count(0), 2);
    due("more", tell(x, "h7;"), 1);
    due("fewer, as no lane tells of them", tell(x, "h2;"), 1);
    due("as many", tell(x, "h3;l01241,0;h3;"), 3);
    due("more, and a lane there", tell(x, "h5;l34349,99;k0;x1;"), 4);
    due("houses", x.count(0), 5);
    due("lanes", x.count(1), 2);
    due("must", x.lane(0, 6), 1);
    due("barred", x.lane(1, 6), 2);
    due("the last word", tell(x, "x0;k0;k1;f1;"), 4);
    due("must", x.lane(0, 6), 1);
    due("free", x.lane(1, 6), 0);
    due("c and d of two digits", tell(x, "l001199,99;l00110,0;l001109,07;"), 3);
    due("c", x.lane(2, 4), 99);
    due("d", x.lane(2, 5), 99);
    due("c", x.lane(3, 4), 0);
    due("c", x.lane(4, 4), 9);
    due("d", x.lane(4, 5), 7);
    due("taken up", x.takeUp() + x.takeUp() + x.takeUp() + x.takeUp(), 4 + 3 + 2 + 1);
    due("fewer, as their lane is no more", tell(x, "h3;"), 1);
    String full = "h2;l00111,1;l00111,1;l00111,1;l00111,1;l00111,1;l00111,1;l00111,1;k0;k0;";
    HangsTogether y = new HangsTogether();
    for (int i = 0; i < 72; i++) {
      y.feed(full.charAt(i));
    }
    due("72 letters", y.village(), 10);
    due("lanes", y.count(1), 7);
    HangsTogether z = new HangsTogether();
    for (int i = 0; i < 71; i++) {
      z.feed(full.charAt(i));
    }
    z.feed('0');
    due("the end of 72 letters", z.village(), -1071);
  }

  private static void promise4() {
    promise = "4 lane";
    HangsTogether x = of("h4;l001359,80;l112327,20;l223416,5;l330129,0;", "l402418,79;l513413,50;l413418,80;");
    int[][] want = {{0, 0, 1, 3, 59, 80, 0}, {1, 1, 2, 6, 27, 20, 0}, {2, 2, 3, 4, 26, 5, 0},
        {3, 3, 0, 1, 29, 0, 0}, {4, 0, 2, 4, 56, 99, 0}, {5, 1, 3, 9, 6, 50, 0}, {4, 1, 3, 4, 56, 99, 0}};
    for (int lane = 0; lane < want.length; lane++) {
      for (int what = 0; what < 7; what++) {
        due(lane + " " + what, x.lane(lane, what), want[lane][what]);
      }
    }
    due("no such lane", x.lane(7, 0), -1);
    due("no such lane", x.lane(-1, 9), -1);
    due("no such what", x.lane(0, -1), -2);
    due("no such what", x.lane(0, 7), -2);
    due("-1s", x.count(11), 2);
    due("-2s", x.count(12), 2);
    HangsTogether y = of("l40111,78;");
    due("20 more", y.lane(0, 5), 98);
  }

  private static void promise5() {
    promise = "5 rule";
    HangsTogether x = of(TRIANGLE);
    due("free, must", x.rule(1, 1), 0);
    due("must, barred", x.rule(1, 2), 1);
    due("barred, barred", x.rule(1, 2), 2);
    due("barred, free", x.rule(1, 0), 2);
    due("free", x.lane(1, 6), 0);
    due("must", x.rule(0, 1), 0);
    due("ways", x.many(), 2);
    due("no such lane", x.rule(3, 7), -1);
    due("no such lane", x.rule(-1, 0), -1);
    due("no such rule", x.rule(0, 3), -2);
    due("no such rule", x.rule(0, -1), -2);
    due("as it was", x.lane(0, 6), 1);
  }

  private static void promise6() {
    promise = "6 takeUp";
    HangsTogether x = of(TRIANGLE, "k2;x1;");
    due("two left", x.takeUp(), 2);
    due("must", x.count(2), 0);
    due("a new third one", tell(x, "l00236,5;"), 1);
    due("is free", x.lane(2, 6), 0);
    due("ways", x.many(), 1);
    due("two left", x.takeUp(), 2);
    due("one left", x.takeUp(), 1);
    due("none left", x.takeUp(), 0);
    due("there is none", x.takeUp(), -3);
    due("-3s", x.count(13), 1);
    due("houses", x.count(0), 3);
  }

  private static void promise7To9() {
    promise = "7 is, 8 hangs, 9 parts";
    HangsTogether x = of(TRIANGLE);
    int[] is = {0, 0, 0, 1, 0, 1, 1, 0};
    int[] hangs = {0, 0, 0, 1, 0, 1, 1, 1};
    int[] parts = {3, 2, 2, 1, 2, 1, 1, 1};
    for (int set = 0; set < 8; set++) {
      due("is " + set, x.is(set), is[set]);
      due("hangs " + set, x.hangs(set), hangs[set]);
      due("parts " + set, x.parts(set), parts[set]);
    }
    x.rule(0, 1);
    x.rule(1, 2);
    due("without what must be kept", x.is(6), 0);
    due("with a barred one", x.is(3), 0);
    due("as it must be", x.is(5), 1);
    due("a barred one joins", x.hangs(6), 1);
    due("a barred one joins", x.parts(2), 2);
    int[] none = {8, 9, -1, 1024, Integer.MIN_VALUE};
    for (int set : none) {
      due("is " + set, x.is(set), -1);
      due("hangs " + set, x.hangs(set), -1);
      due("parts " + set, x.parts(set), -1);
    }
    due("-1s", x.count(11), 15);
  }

  private static void promise10To12() {
    promise = "10 many, 11 sum, 12 way";
    HangsTogether x = of(TRIANGLE);
    due("many", x.many(), 3);
    due("sum", x.sum(), 11);
    due("0", x.way(0), 3);
    due("1", x.way(1), 5);
    due("2", x.way(2), 6);
    due("3", x.way(3), -9);
    due("greatest", x.way(Integer.MAX_VALUE), -9);
    due("-1", x.way(-1), -4);
    due("-4s", x.count(14), 1);
    x.rule(2, 2);
    due("many", x.many(), 1);
    due("sum", x.sum(), 2);
    due("0", x.way(0), 3);
    HangsTogether wide = of("h7;l50149,9;l51249,9;l52349,9;l53449,9;l54549,9;l55649,9;", "l56049,9;l50349,9;l51449,9;l52549,9;");
    due("of ten wide ones", wide.sum(), wide.many() * 531441L);
  }

  private static void promise13To15() {
    promise = "13 likely, 14 pair, 15 less";
    HangsTogether x = of(TRIANGLE);
    int[][] above = {{5, 2, 3}, {2, 8, 6}, {3, 6, 9}};
    for (int one = 0; one < 3; one++) {
      due("likely " + one, x.likely(one, 0), above[one][one]);
      due("below", x.likely(one, 1), 11);
      for (int other = 0; other < 3; other++) {
        due("pair " + one + " " + other, x.pair(one, other, 0), above[one][other]);
        due("below", x.pair(one, other, 1), 11);
      }
    }
    due("less", x.less(0, 1), 1);
    due("less", x.less(2, 1), 1);
    x.rule(0, 1);
    due("sure", x.likely(0, 0) * 100 + x.likely(0, 1), 101);
    due("as much", x.less(0, 1), 0);
    due("2 of 5", x.pair(0, 1, 0) * 100 + x.pair(0, 1, 1), 205);
    due("never", x.pair(1, 2, 0) * 100 + x.pair(1, 2, 1), 1);
    due("less", x.less(1, 2), 1);
    due("no such lane", x.likely(3, 5), L + 1);
    due("no such lane", x.likely(-1, 0), L + 1);
    due("no such part", x.likely(0, 2), L + 2);
    due("no such part", x.likely(0, -1), L + 2);
    due("no such lane", x.pair(0, 3, 5), L + 1);
    due("no such lane", x.pair(3, 0, 5), L + 1);
    due("no such part", x.pair(0, 0, 2), L + 2);
    due("no such lane", x.less(0, 3), -1);
    due("no such lane", x.less(-1, 0), -1);
    due("one twice", x.less(1, 1), -1);
    x.rule(1, 2);
    x.rule(2, 2);
    due("no way", x.likely(0, 1), L + 3);
    due("no such part first", x.likely(0, 2), L + 2);
    due("no way", x.pair(0, 1, 1), L + 3);
    due("no way", x.less(0, 1), -3);
    due("one twice first", x.less(0, 0), -1);
    due("-1s", x.count(11), 8);
    due("-2s", x.count(12), 4);
    due("-3s", x.count(13), 3);
    HangsTogether apart = of("h3;l00111,1;l00111,1;l01211,1;l01211,1;");
    due("lanes of other rings", apart.less(0, 2), 0);
    due("in least terms", apart.likely(0, 0) * 10 + apart.likely(0, 1), 12);
    due("in least terms", apart.pair(0, 3, 0) * 10 + apart.pair(0, 3, 1), 14);
  }

  private static void promise16And17() {
    promise = "16 inAll, 17 inNone";
    HangsTogether x = of("h4;", TRIANGLE, "l00311,1;");
    due("in all", x.inAll(), 8);
    due("in none", x.inNone(), 0);
    x.rule(0, 1);
    due("in all", x.inAll(), 9);
    x.rule(1, 2);
    due("in all", x.inAll(), 13);
    due("in none", x.inNone(), 2);
    x.rule(1, 1);
    due("in all", x.inAll(), 11);
    due("in none", x.inNone(), 4);
    x.rule(3, 2);
    due("without any way none in all", x.inAll(), 0);
    due("without any way all in none", x.inNone(), 15);
  }

  private static void promise18() {
    promise = "18 cheap";
    HangsTogether x = of(TRIANGLE);
    due("0", x.cheap(0, 0) * 100 + x.cheap(0, 1), 511);
    due("1", x.cheap(1, 0) * 100 + x.cheap(1, 1), 312);
    due("2", x.cheap(2, 0) * 100 + x.cheap(2, 1), 613);
    due("3", x.cheap(3, 0), -9);
    due("3", x.cheap(3, 1), -9);
    due("no such what", x.cheap(-1, 2), -2);
    due("no such what", x.cheap(0, -1), -2);
    due("below", x.cheap(-1, 0), -4);
    x.rule(2, 2);
    due("0", x.cheap(0, 0), 3);
    due("1", x.cheap(1, 0), -9);
    HangsTogether alike = of("l00115,10;l01225,20;l00235,5;");
    due("alike, by bits", alike.cheap(0, 0) * 100 + alike.cheap(1, 0) * 10 + alike.cheap(2, 0), 356);
  }

  private static void promise19And20() {
    promise = "19 nights, 20 step";
    HangsTogether x = of("h4;l00110,0;l01210,0;l02310,0;l03010,0;l00210,0;");
    due("alike", x.nights(7, 7), 0);
    due("one", x.nights(7, 11), 1);
    due("two", x.nights(3 | 4, 8 | 16 | 1), 2);
    due("alike", x.step(7, 7), 7);
    // From 0-1 1-2 2-3 to 0-1 3-0 0-2: 1-2 given up for 0-2 is 21, for 3-0 is 13; 2-3 for 3-0 is 11.
    due("the least", x.step(7, 25), 11);
    due("and on", x.step(11, 25), 25);
    due("back", x.step(25, 7), 11);
    due("no way", x.nights(15, 7), -3);
    due("no way", x.nights(7, 15), -3);
    due("no way", x.step(7, 3), -3);
    due("no way", x.step(-1, 7), -3);
    due("no such lanes", x.step(7, 7 | 32), -3);
    x.rule(0, 2);
    due("a barred one", x.nights(7, 7), -3);
    due("-3s", x.count(13), 6);
  }

  private static void promise21() {
    promise = "21 toward";
    HangsTogether x = of(TRIANGLE);
    for (int house = 0; house < 3; house++) {
      due("how many", x.toward(house, 0), 3);
      due("worths", x.toward(house, 1), 11);
    }
    // 0 to 1 only, 1 to 2 only, 0 and 2 either way.
    HangsTogether one = of("l30115,10;l31227,20;l00236,5;");
    due("to 0: 1-2-0", one.toward(0, 0) * 100 + one.toward(0, 1), 106);
    due("to 1: 2-0-1", one.toward(1, 0) * 100 + one.toward(1, 1), 103);
    due("to 2: 0-1-2, 0-2 and 1-2", one.toward(2, 0) * 100 + one.toward(2, 1), 208);
    one.rule(0, 1);
    due("to 2 with 0-1", one.toward(2, 1), 2);
    due("to 0 with 0-1", one.toward(0, 0), 0);
    one.rule(0, 2);
    due("to 2 without 0-1", one.toward(2, 1), 6);
    due("no such house", one.toward(3, 2), L + 1);
    due("no such house", one.toward(-1, 0), L + 1);
    due("no such what", one.toward(0, 2), L + 2);
    due("no such what", one.toward(0, -1), L + 2);
  }

  private static void promise22And23() {
    promise = "22 forests, 23 ploughs";
    HangsTogether x = of(TRIANGLE);
    int[] forests = {3, 3, 1, 0, 0, 0, 0};
    for (int k = 1; k <= 7; k++) {
      due("forests " + k, x.forests(k), forests[k - 1]);
    }
    due("0", x.forests(0), -4);
    due("8", x.forests(8), -6);
    int[] ploughs = {-1, 3, 3, 2, 3, 2, 2, 1, -1, -1};
    for (int houses = 0; houses < 10; houses++) {
      due("ploughs " + houses, x.ploughs(houses), ploughs[houses]);
    }
    due("-1", x.ploughs(-1), -1);
    x.rule(0, 1);
    due("with 0-1", x.forests(2), 1);
    due("with 0-1", x.forests(3), 0);
    due("0 and 1 are in one part", x.ploughs(3), 0);
    due("0 and 2 are not", x.ploughs(5), 1);
    x.rule(0, 2);
    due("without 0-1", x.forests(2), 2);
    due("without 0-1", x.ploughs(3), 2);
    due("without 0-1", x.ploughs(5), 1);
  }

  private static void promise24And25() {
    promise = "24 hard, 25 more";
    HangsTogether x = of(TRIANGLE);
    due("hard", x.hard(0, 1, 0) * 100 + x.hard(0, 1, 1), 511);
    due("hard", x.hard(2, 1, 0) * 100 + x.hard(2, 1, 1), 411);
    due("more", x.more(0, 1, 0) * 100 + x.more(0, 1, 1), 1611);
    due("more", x.more(1, 2, 0) * 100 + x.more(1, 2, 1), 1511);
    x.rule(0, 1);
    due("must does not matter", x.hard(0, 1, 0) * 100 + x.hard(0, 1, 1), 511);
    // The sum is 5; a lane more between 1 and 2 with 0-1 adds 1, one between 0 and 1 nothing.
    due("must matters", x.more(1, 2, 0) * 100 + x.more(1, 2, 1), 605);
    due("a ring", x.more(1, 0, 0) * 100 + x.more(1, 0, 1), 101);
    x.rule(0, 2);
    due("barred: halves and thirds", x.hard(0, 1, 0) * 100 + x.hard(0, 1, 1), 506);
    due("barred", x.more(1, 0, 0) * 100 + x.more(1, 0, 1), 1106);
    due("no such house", x.hard(0, 3, 2), L + 1);
    due("no such house", x.hard(-1, 0, 2), L + 1);
    due("one twice", x.hard(1, 1, 0), L + 1);
    due("no such part", x.hard(0, 1, 2), L + 2);
    due("no such house", x.more(3, 0, 2), L + 1);
    due("one twice", x.more(1, 1, 0), L + 1);
    due("no such part", x.more(0, 1, -1), L + 2);
    x.rule(2, 2);
    due("nothing", x.hard(0, 1, 0), L + 3);
    due("no way", x.more(0, 1, 0), L + 3);
    HangsTogether two = of("h2;l10112,3;");
    due("1 by 2", two.hard(0, 1, 0) * 10 + two.hard(0, 1, 1), 12);
    due("3 by 2", two.more(0, 1, 0) * 10 + two.more(0, 1, 1), 32);
    HangsTogether ring = of("l00110,0;l00110,0;l01210,0;k0;k1;");
    due("no way, but not hard", ring.hard(0, 1, 0) * 10 + ring.hard(0, 1, 1), 12);
    due("no way", ring.more(0, 1, 0), L + 3);
    HangsTogether full = of("h2;l00110,0;l00110,0;l00110,0;l00110,0;l00110,0;", "l00110,0;l00110,0;l00110,0;l00110,0;l00110,0;");
    due("11 by 10, though there is no room", full.more(0, 1, 0) * 100 + full.more(0, 1, 1), 1110);
  }

  private static void promise26() {
    promise = "26 holds";
    HangsTogether x = of(TRIANGLE);
    due("above", x.holds(0), 967);
    due("below", x.holds(1), 1000);
    x.rule(0, 1);
    due("must: 1 less 20 by 5 hundredths", x.holds(0) * 1000 + x.holds(1), 99100);
    x.rule(0, 2);
    due("barred: 80 by 95 hundredths", x.holds(0) * 100 + x.holds(1), 1925);
    due("no such part", x.holds(2), L + 2);
    due("no such part", x.holds(-1), L + 2);
    HangsTogether snow = of("h2;l40111,75;");
    due("snowy", snow.holds(0) * 100 + snow.holds(1), 120);
    HangsTogether eight = of("h2;l00111,99;l00111,99;l00111,99;l00111,99;", "l00111,99;l00111,99;l00111,99;l00111,99;");
    due("above", eight.holds(0), 10000000000000000L - 9227446944279201L);
    due("below", eight.holds(1), 10000000000000000L);
    tell(eight, "l00111,99;");
    due("nine", eight.holds(0), L + 6);
    due("no such part first", eight.holds(3), L + 2);
    eight.rule(3, 1);
    due("nine, though one must be kept", eight.holds(0), L + 6);
    eight.rule(4, 2);
    due("eight that are not barred", eight.holds(0) * 10 + eight.holds(1), 11);
    due("-6s", eight.count(16), 2);
  }

  private static void promise27() {
    promise = "27 plan";
    HangsTogether x = of("h5;");
    int[] most5 = {0, 0, 0, 1, 5, 12, 24, 45, 75, 125};
    for (int k = 1; k <= 10; k++) {
      due("5 houses, ways of " + k, x.plan(k, 0), most5[k - 1]);
    }
    due("0 bits", x.plan(3, 1), 0);
    due("0-1, 0-2, 0-3, 0-4", x.plan(4, 1), 15);
    due("all", x.plan(10, 1), 1023);
    due("no such what", x.plan(0, 2), -2);
    due("below", x.plan(0, 0), -4);
    due("room", x.plan(11, 0), -6);
    tell(x, "h4;");
    int[] most4 = {0, 0, 1, 4, 8, 16};
    int[] first4 = {0, 0, 7, 30, 31, 63};
    for (int k = 1; k <= 6; k++) {
      due("4 houses, ways of " + k, x.plan(k, 0), most4[k - 1]);
      due("4 houses, bits of " + k, x.plan(k, 1), first4[k - 1]);
    }
    due("more than pairs", x.plan(7, 0), -6);
    tell(x, "h6;");
    due("more than 5 houses", x.plan(5, 0), -6);
    due("below first", x.plan(-1, 0), -4);
    tell(x, "h2;");
    due("2 houses", x.plan(1, 0) * 10 + x.plan(1, 1), 11);
    due("more than pairs", x.plan(2, 1), -6);
    tell(x, "h3;l00111,1;x0;");
    due("lanes that are there do not matter", x.plan(2, 0) * 10 + x.plan(2, 1), 13);
  }

  private static void promise28() {
    promise = "28 draw";
    HangsTogether x = of(TRIANGLE);
    due("WALK", x.draw(0, 1), 6);
    due("WALK", x.draw(0, -1), 6);
    due("STEP", x.draw(1, 1), 6);
    due("STEP", x.draw(1, -1), 5);
    due("CHEAP", x.draw(2, 1), 5);
    due("DEAR", x.draw(3, 1), 6);
    due("FAIR", x.draw(4, 1), 6);
    due("TOLD, the row has none", x.draw(5, 1), -9);
    x.row(2);
    due("TOLD, not all are joined", x.draw(5, 1), -9);
    x.row(0);
    due("TOLD", x.draw(5, 1), 5);
    due("the row stays", x.count(6), 2);
    x.row(1);
    due("TOLD, a ring", x.draw(5, 1), -9);
    due("no such drawer", x.draw(6, 1), -2);
    due("no such drawer", x.draw(-1, 1), -2);
    HangsTogether stuck = of("l30110,0;l00210,0;");
    stuck.rule(1, 2);
    due("WALK comes to where no lane goes on", stuck.draw(0, 5), -9);
    HangsTogether back = of("l31010,0;l01210,0;l02010,0;");
    due("WALK does not go against ONE", back.draw(0, 7), 6);
    back.rule(0, 1);
    due("must does not matter to WALK", back.draw(0, 7), 6);
    back.rule(2, 2);
    due("WALK has no lane at 0", back.draw(0, 7), -9);
    HangsTogether far = of("l00140,0;l31210,0;x1;");
    due("WALK never comes to 2", far.draw(0, 3), -9);
    HangsTogether alike = of("l00115,10;l01225,20;l00235,5;");
    due("DEAR, of several the least", alike.draw(3, 0), 3);
  }

  private static void promise29() {
    promise = "29 often";
    HangsTogether x = of(TRIANGLE);
    // FAIR draws the ways 2, 1, 0, 1, 1, 2, 0, 0 with seed 1.
    due("FAIR", x.often(4, 0, 1, 1), 0);
    due("FAIR", x.often(4, 0, 4, 1), 3);
    due("FAIR", x.often(4, 0, 8, 1), 6);
    due("FAIR", x.often(4, 1, 8, 1), 5);
    due("CHEAP", x.often(2, 2, 30, 1), 30);
    due("CHEAP", x.often(2, 1, 30, 1), 0);
    due("TOLD makes none", x.often(5, 0, 30, 1), 0);
    due("no such drawer", x.often(6, 9, 0, 1), -2);
    due("no such lane", x.often(0, 3, 0, 1), -1);
    due("no such lane", x.often(0, -1, 31, 1), -1);
    due("below", x.often(0, 0, 0, 1), -4);
    due("room", x.often(0, 0, 31, 1), -6);
    due("least", x.often(0, 0, Integer.MIN_VALUE, 1), -4);
    // STEP with seed -1 makes 5 by draws 1 of 11 and 4 of 5; then 9862 % 11 = 6 leaves 0: 6.
    due("STEP, z goes on", x.often(1, 0, 2, -1) * 10 + x.often(1, 2, 2, -1), 12);
    // WALK with seed 1 goes four lanes (draws 2 of 4, 3 of 5, 1 of 4, 0 of 5) and makes 6.
    due("WALK", x.often(0, 1, 1, 1) * 10 + x.often(0, 0, 1, 1), 10);
    int alike = 0;
    Oracle oracle = new Oracle();
    for (int i = 0; i < TRIANGLE.length(); i++) {
      oracle.feed(TRIANGLE.charAt(i));
    }
    oracle.village();
    for (int drawer = 0; drawer < 6; drawer++) {
      for (int lane = 0; lane < 3; lane++) {
        alike += x.often(drawer, lane, 30, 99) == oracle.often(drawer, lane, 30, 99) ? 1 : 0;
      }
    }
    due("as the oracle", alike, 18);
  }

  private static void promise30And31() {
    promise = "30 row, 31 judge";
    HangsTogether x = of("h4;", TRIANGLE, "l00311,1;l00311,1;x4;");
    due("below", x.row(-1), -4);
    due("room", x.row(10), -6);
    judged(x, 0);
    judged(x, 0, 5);
    judged(x, 0, 9, 0);
    judged(x, 1, 0, 4, 9);
    judged(x, 1, 0, 0);
    judged(x, 2, 0, 1, 2, 3);
    judged(x, 2, 0, 1);
    judged(x, -9, 0, 1, 3);
    judged(x, -9, 3, 2, 1);
    judged(x, 3, 3, 2, 1, 3);
    x.rule(0, 1);
    judged(x, 3, 3, 2, 1);
    judged(x, -9, 3, 2, 0);
    for (int i = 1; i <= 10; i++) {
      due("row " + i, x.row(9), i);
    }
    due("ten already", x.row(0), -6);
    due("below first", x.row(-1), -4);
    due("in the row", x.count(6), 10);
    due("judge", x.judge(), 0);
    due("in the row", x.count(6), 0);
  }

  private static void judged(HangsTogether x, int want, int... lanes) {
    for (int i = 0; i < lanes.length; i++) {
      due("row", x.row(lanes[i]), i + 1);
    }
    due("judge of " + java.util.Arrays.toString(lanes), x.judge(), want);
    due("the row has none", x.count(6), 0);
  }

  private static void promise32And33() {
    promise = "32 image, 33 restore";
    HangsTogether x = new HangsTogether();
    due("there is none", x.restore(), -3);
    tell(x, TRIANGLE);
    x.rule(0, 1);
    due("three", x.image(), 3);
    tell(x, "h5;l03411,1;f0;x1;");
    x.takeUp();
    x.takeUp();
    x.row(1);
    x.feed('h');
    due("three", x.restore(), 3);
    due("houses", x.count(0), 3);
    due("must", x.lane(0, 6), 1);
    due("free", x.lane(1, 6), 0);
    due("the third", x.lane(2, 3), 3);
    due("ways", x.many(), 2);
    due("the row is as it was", x.count(6), 1);
    due("letters are as they were", x.count(5), 1);
    due("refusals are as they were", x.count(13), 1);
    x.takeUp();
    due("once more", x.restore(), 3);
    due("ways", x.many(), 2);
    x.takeUp();
    due("another one", x.image(), 2);
    x.takeUp();
    due("that one", x.restore(), 2);
  }

  private static void promise34() {
    promise = "34 count";
    HangsTogether x = of("h4;", TRIANGLE, "l40312,1;k0;k1;x2;");
    x.feed('h');
    x.feed('h');
    x.row(5);
    int[] want = {4, 4, 2, 1, 5 + 7 + 6 + 24, 2, 1};
    for (int what = 0; what < want.length; what++) {
      due("" + what, x.count(what), want[what]);
    }
    x.is(99);
    x.lane(0, 9);
    x.likely(0, 9);
    x.restore();
    x.nights(0, 0);
    x.step(0, 0);
    for (int i = 0; i < 4; i++) {
      x.way(-1);
    }
    for (int i = 0; i < 5; i++) {
      x.forests(8);
    }
    int[] refusals = {1, 2, 3, 4, 0, 5};
    for (int what = 11; what <= 16; what++) {
      due("" + what, x.count(what), refusals[what - 11]);
    }
    int[] others = {-1, 7, 8, 9, 10, 17, -10, Integer.MIN_VALUE, Integer.MAX_VALUE, Integer.MIN_VALUE + 11};
    for (int what : others) {
      due("" + what, x.count(what), -9);
    }
    due("-9 is no refusal", x.count(12), 2);
  }
}
