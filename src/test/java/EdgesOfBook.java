import java.util.List;

/** Terms 1: THE BOOK, its lines, its TOKENS, its numbers, what holds if a line is not told, its FAULTS. */
final class EdgesOfBook {
  private static final String HERE = "Terms 1";
  private static final String OWN = "star at light eye wide unit far noise off bar step needs lean room pair "
      + "trust when dots named namings specks smears told stretch and or not";
  private static final String[] OTHER_LINES = {"eye wide 8 unit 5 far 40;", "noise 2;", "off 2;", "bar 100;", "step 100 needs 3;",
      "lean 0 0;", "room star 6 pair 4;"};

  static void run() {
    length();
    lines();
    signed();
    words();
    numbers();
    signs();
    blanks();
    longest();
    behindNumbers();
    ownWords();
    stars();
    once();
    notTold();
    notToldAgain();
    ranges();
    places();
    faults();
    near();
  }

  /** STARS at x, y, all of light 5. */
  static String sky(int... places) {
    StringBuilder all = new StringBuilder();
    for (int i = 0; i + 1 < places.length; i += 2) {
      all.append("star ").append(name(i / 2)).append(" at ").append(places[i]).append(' ').append(places[i + 1]).append(" light 5;");
    }
    return all.toString();
  }

  static String name(int i) {
    return "s" + (char) ('a' + i / 26) + (char) ('a' + i % 26);
  }

  private static void of(String sentence) {
    Edge.of(HERE, sentence);
  }

  private static void length() {
    of("THE BOOK is a text of at most 1,500 bytes (empty at first): book = {line}.");
    Edge.due("no STARS at first", new StarEye().about(0), 0);
    Edge.goodBook("", 0);
    Edge.goodBook(" ", 0);
    Edge.goodBook("off 1;", 0);
    Edge.goodBook("off 1;bar 1;", 0);
    String first = "star a at 0 0 light 1;";
    String last = "star b at 99 0 light 1;";
    String full = first + " ".repeat(1500 - first.length() - last.length()) + last;
    Edge.due("STARS of 1500 bytes", Edge.goodBook(full, 2).eye.length(0, 1), 990);
    Edge.badBook(full.substring(0, 1499) + "$", 1, 1499);
    Edge.badBook(full.substring(0, 1499) + " ", 2, 1500);
    Check c = new Check();
    Edge.due("1501 bytes have no room", Check.put(c.eye, full + " "), false);
  }

  /** A line is one if all its TOKENS stand there, each once and in their order. */
  private static void line(int stars, String... tokens) {
    String whole = String.join(" ", tokens);
    Edge.goodBook(whole, stars);
    Edge.goodBook(sky(500, 500) + whole + sky(700, 500).replace("saa", "sab"), 2 + stars);
    for (int i = 1; i < tokens.length; i++) {
      String cut = String.join(" ", List.of(tokens).subList(0, i));
      Edge.badBook(cut, 2, cut.length());
      Edge.badBook(cut + " ", 2, cut.length() + 1);
    }
    int place = 0;
    for (int i = 0; i < tokens.length; i++) {
      String head = whole.substring(0, place);
      String tail = whole.substring(place);
      int behind = place + tokens[i].length() + 1;
      boolean numbers = isNumber(tokens[i]) && isNumber(tokens[i + 1]);
      Edge.badBook(head + tokens[i] + " " + tail, 2, numbers ? behind + tokens[i + 1].length() + 1 : behind);
      if (!tokens[i].equals("room")) {
        String without = head + tail.substring(Math.min(tail.length(), tokens[i].length() + 1));
        int wrong = numbers ? place + tokens[i + 1].length() + 1 : place;
        Edge.badBook(without, 2, Math.min(without.length(), wrong));
      }
      place = behind;
    }
  }

  private static boolean isNumber(String token) {
    return Character.isDigit(token.charAt(0));
  }

  private static void lines() {
    of("line = star NAME at N N light N ;");
    line(1, "star", "a", "at", "1", "2", "light", "3", ";");
    of("eye wide N unit N far N ;");
    line(0, "eye", "wide", "8", "unit", "5", "far", "40", ";");
    of("noise N ;");
    line(0, "noise", "3", ";");
    of("off N ;");
    line(0, "off", "3", ";");
    of("bar N ;");
    line(0, "bar", "3", ";");
    of("step N needs N ;");
    line(0, "step", "300", "needs", "3", ";");
    of("lean V V ;");
    line(0, "lean", "3", "4", ";");
    of("room star N pair N ;");
    line(0, "room", "star", "3", "pair", "4", ";");
    Edge.badBook("star 3 pair 4 ;", 2, 5);
  }

  private static void signed() {
    of("V = [-] N.");
    Edge.goodBook("lean 5 6;", 0);
    Edge.goodBook("lean -5 -6;", 0);
    Edge.goodBook("lean - 5\n-\n6;", 0);
    Edge.goodBook("lean-5-6;", 0);
    Edge.goodBook("lean 5-6;", 0);
    Edge.goodBook("lean -0 0;", 0);
    Edge.badBook("lean --5 6;", 2, 6);
    Edge.badBook("lean 5 - -6;", 2, 9);
    Edge.badBook("lean - ;", 2, 7);
    Edge.badBook("lean -", 2, 6);
    Edge.badBook("lean 5 6-;", 2, 8);
    for (String line : new String[] {"noise ", "off ", "bar ", "step ", "eye wide ", "room star ", "star a at "}) {
      Edge.badBook(line + "-1", 2, line.length());
    }
  }

  private static void words() {
    of("TOKENS: words (a .. z, 8 at most)");
    for (String name : new String[] {"a", "z", "az", "abcdefg", "abcdefgh", "stuvwxyz", "zzzzzzzz"}) {
      Edge.goodBook("star " + name + " at 1 1 light 1;", 1);
    }
    Edge.badBook("star abcdefghi at 1 1 light 1;", 1, 5);
    Edge.badBook("star zzzzzzzzz at 1 1 light 1;", 1, 5);
    Edge.badBook("star " + "a".repeat(400), 1, 5);
    for (char sign : new char[] {'a' - 1, 'z' + 1, 'A', 'Z'}) {
      Edge.badBook("star " + sign, 1, 5);
      Edge.badBook("star a" + sign, 1, 6);
    }
    Edge.badBook("stars", 2, 0);
    Edge.badBook("Star", 1, 0);
  }

  private static void numbers() {
    of("N (1 to 4 digits)");
    for (String number : new String[] {"1", "12", "123", "1234", "0001", "9999"}) Edge.goodBook("bar " + number + ";", 0);
    for (String number : new String[] {"00001", "12345", "99999", "000000000000000000001", "4294967297"}) Edge.badBook("bar " + number + ";", 1, 4);
    Edge.badBook("bar ;", 2, 4);
    Edge.badBook("bar " + (char) ('0' - 1) + ";", 1, 4);
    Edge.badBook("bar " + (char) ('9' + 1) + ";", 1, 4);
  }

  private static void signs() {
    of("signs ; -;");
    for (int sign = 0; sign < 256; sign++) {
      boolean token = sign >= 'a' && sign <= 'z' || sign >= '0' && sign <= '9' || sign == ';' || sign == '-';
      if (sign != 32 && sign != 10) Edge.badBook("" + (char) sign, token ? 2 : 1, 0);
    }
  }

  private static void blanks() {
    of("blanks (32, 10) part them or not;");
    Edge.goodBook(" \n\n off \n 1 \n; \n ", 0);
    Edge.goodBook("off1;bar1;lean-1-1;", 0);
    Edge.goodBook("eye wide4 unit1 far1;room star1 pair1;", 0);
    Edge.goodBook("star a at1 1 light1;", 1);
    for (int sign = 0; sign < 40; sign++) {
      if (sign == 32 || sign == 10) Edge.goodBook("off" + (char) sign + "1;", 0);
      else Edge.badBook("off" + (char) sign + "1;", 1, 3);
    }
    Edge.badBook("of f1;", 2, 0);
    Edge.badBook("bar 1 2;", 2, 6);
  }

  private static void longest() {
    of("each is as long as can be;");
    Edge.badBook("noise12;", 4, 5);
    Edge.badBook("noise 1 2;", 2, 8);
    Edge.badBook("staraat", 2, 0);
    Edge.badBook("stara at 1 1 light 1;", 2, 0);
    Edge.badBook("star aat 1 1 light 1;", 2, 9);
    Edge.goodBook("star abcdefgh at 1 1 light 1;star abcdefgi at 99 1 light 1;star abcdefg at 1 99 light 1;", 3);
  }

  private static void behindNumbers() {
    of("no letter directly behind an N.");
    Edge.badBook("noise 1a;", 1, 6);
    Edge.badBook("noise 1a", 1, 6);
    Edge.badBook("noise 1 a;", 2, 8);
    Edge.badBook("noise 99z;", 1, 6);
    Edge.badBook("star a at 1 1light 1;", 1, 12);
    Edge.goodBook("star a at 1 1 light 1;", 1);
    Edge.goodBook("noise 1;off 1;", 0);
    Edge.goodBook("lean 1-1;", 0);
    Edge.badBook("step 100needs 1;", 1, 5);
  }

  private static void ownWords() {
    of("Words that stand for themselves (in RULES, too: " + OWN + ") are no NAMES.");
    List<String> own = List.of(OWN.split(" "));
    Edge.due("own words", own.size(), 27);
    for (String word : own) {
      Edge.badBook("star " + word + " at 1 1 light 1;", 2, 5);
      Edge.goodBook("star " + word + "x at 1 1 light 1;", 1);
      Edge.goodBook("star x" + word + " at 1 1 light 1;", 1);
      String shorter = word.substring(0, word.length() - 1);
      if (!own.contains(shorter)) Edge.goodBook("star " + shorter + " at 1 1 light 1;", 1);
    }
  }

  private static String manyStars(int count) {
    StringBuilder all = new StringBuilder();
    for (int i = 0; i < count; i++) all.append(sky(0, 0).replace("saa", name(i)).replace("at 0 0", "at " + 30 * i + " 0"));
    return all.toString();
  }

  private static void stars() {
    of("At most 32 STARS");
    Edge.due("about(0)", Edge.goodBook(manyStars(32), 32).eye.about(0), 32);
    Edge.goodBook(manyStars(31), 31);
    Edge.badBook(manyStars(33), 2, manyStars(32).length());
    Edge.badBook(manyStars(32) + "noise 1;\nstar", 2, manyStars(32).length() + 9);
    Edge.goodBook(manyStars(32) + "noise 1;", 32);
    of("(at 0 .. 999 each, light 1 .. 99)");
    range("star a at ", " 5 light 1;", 0, 999);
    range("star a at 5 ", " light 1;", 0, 999);
    range("star a at 5 5 light ", ";", 1, 99);
    Edge.due("from one corner to the other", Edge.goodBook(sky(0, 0, 999, 999), 2).eye.length(0, 1), 14127);
    Edge.due("along x", Edge.goodBook(sky(0, 0, 999, 0), 2).eye.length(0, 1), 9990);
    Edge.due("along y", Edge.goodBook(sky(0, 999, 0, 0), 2).eye.length(0, 1), 9990);
    of("numbered as told.");
    Check c = Edge.goodBook("star z at 0 0 light 1;star a at 30 0 light 99;star m at 100 0 light 50;", 3);
    Edge.due("0 1", c.eye.length(0, 1), 300);
    Edge.due("1 2", c.eye.length(1, 2), 700);
    Edge.due("0 2", c.eye.length(0, 2), 1000);
    Edge.due("2 3", c.eye.length(2, 3), -1);
    Check full = Edge.goodBook(manyStars(32), 32);
    Edge.due("30 31", full.eye.length(30, 31), 300);
    Edge.due("0 31", full.eye.length(0, 31), 9300);
    Edge.due("31 32", full.eye.length(31, 32), -1);
  }

  private static void once() {
    of("Each other line at most once;");
    StringBuilder all = new StringBuilder();
    for (String line : OTHER_LINES) all.append(line);
    Edge.goodBook(all.toString(), 0);
    for (String line : OTHER_LINES) {
      Edge.goodBook(line, 0);
      Edge.badBook(line + line, 2, line.length());
      Edge.badBook(all + line, 2, all.length());
      Edge.badBook(line + sky(1, 1) + line, 2, line.length() + sky(1, 1).length());
    }
    Edge.goodBook(sky(1, 1, 50, 50), 2);
  }

  /** A BOOK in which only this is not told; and no BOOK at all, where STARS are not wanted. */
  private static void notTold() {
    of("if it is not told: eye wide 8 unit 5 far 40");
    for (Check c : new Check[] {new Check(), Edge.goodBook(sky(1, 1), 1)}) {
      Edge.due("8 rows of 8", c.picture(Check.rows(8)), 0);
      Edge.due("7 rows of 7", c.picture(Check.rows(7)), -1);
      Edge.due("their place", c.eye.fault(1), 7);
      Edge.due("9 rows of 9", c.picture(Check.rows(9)), -1);
      Edge.due("their place", c.eye.fault(1), 8);
      Edge.due("the last PIXEL", c.eye.speckless(7, 7, true), true);
      Edge.due("behind it", c.eye.speckless(8, 7, true), false);
    }
    Check triangle = Edge.seen(sky(100, 100, 130, 100, 100, 120), 8, 0, 0, 9, 6, 0, 8, 0, 4, 7);
    Edge.due("unit 5: 6 PIXELS are 30", triangle.eye.stretch(0, 0, 0), 1000);
    Edge.due("far 40: three STARS 40 away are seen", Edge.goodBook(sky(540, 500, 500, 540, 460, 500), 3).eye.looks(1), 99);
    Edge.due("one of them 41 away is not", Edge.goodBook(sky(541, 500, 500, 540, 460, 500), 3).eye.looks(1), 100);
    of("noise 2");
    Edge.due("light 2 is no DOT", Edge.seen("", 8, 1, 1, 2).eye.dots(0, 0, 0), 0);
    Edge.due("light 3 is one", Edge.seen("", 8, 1, 1, 3).eye.dots(0, 0, 0), 1);
    of("off 2");
    int[] points = {0, 0, 9, 6, 0, 8, 0, 4, 7};
    Edge.due("320 fits 300", Edge.seen(sky(100, 100, 132, 100, 100, 120), 8, points).eye.namings(0, 0, 0), 1);
    Edge.due("321 does not", Edge.seen(sky(100, 100, 132, 103, 100, 120), 8, points).eye.namings(0, 0, 0), 0);
    of("bar 100");
    // the one pair that is 40 away and the one that is 50 away, of 10 each: 1/100
    String five = "eye wide 16 unit 5 far 9;off 0;" + sky(100, 100, 140, 100, 100, 130, 500, 500, 560, 500);
    Edge.due("ODDS of 1/100 are TOLD", Edge.seen(five, 16, 2, 2, 9, 10, 2, 8, 2, 8, 7).eye.told(0, 0), 1);
    // 4 * 11 of 66 * 66: 1/99
    String twelve = "eye wide 16 unit 4 far 9;off 0;"
        + sky(400, 400, 400, 380, 424, 348, 424, 328, 408, 316, 392, 304, 372, 304, 360, 288, 388, 364, 404, 352, 392, 336, 376, 348);
    Check c = Edge.seen(twelve, 16, 6, 13, 9, 0, 0, 8, 3, 4, 7);
    Edge.due("one NAMING", c.eye.namings(0, 0, 0), 1);
    Edge.due("ODDS of 1 by", c.eye.odds(0, 0, 0, 0), 1);
    Edge.due("99", c.eye.odds(0, 0, 1, 0), 99);
    Edge.due("are not TOLD", c.eye.told(0, 0), 0);
    of("step 100 needs 3");
    Edge.due("step 100", new StarEye().looks(0), 100);
    Edge.due("three are enough", Edge.goodBook(sky(500, 520, 520, 500, 500, 480), 3).eye.looks(1), 99);
    Edge.due("two are not", Edge.goodBook(sky(500, 520, 520, 500), 2).eye.looks(1), 100);
    Edge.due("the next LOOK", Edge.goodBook(sky(0, 0, 20, 0, 0, 20), 3).eye.looks(2), 100);
    of("lean 0 0");
    // the eye's middle lies (200, 200) from its corner, POINT 0 (25, 25), STAR 0 (1000, 1000)
    Edge.due("LOOK x", triangle.eye.look(0, 0, 0, 0, 0), 1175);
    Edge.due("LOOK y", triangle.eye.look(0, 0, 1, 0, 0), 1175);
    of("room star 6 pair 4.");
    Check two = Edge.goodBook(sky(0, 0, 80, 0), 2);
    int[][] held = {{5, 0}, {6, 1}, {15, 1}, {16, 2}};
    for (int[] one : held) Edge.due("held " + one[0], two.eye.held(one[0]), one[1]);
  }

  /** What other BOOKS told before is not told by this one. */
  private static void notToldAgain() {
    String told = "eye wide 16 unit 9 far 999;noise 9;off 5;bar 9999;step 999 needs 6;lean 99 -99;room star 99 pair 99;";
    Check c = new Check();
    for (int i = 0; i < 3; i++) Edge.due("told otherwise", c.book(told), 0);
    for (int i = 0; i < 2; i++) {
      Edge.due("another BOOK", c.book(sky(100, 100, 130, 100, 100, 120)), 3);
      Edge.due("wide 8", c.stars(8, 0, 0, 3, 6, 0, 3, 0, 4, 3), 0);
      Edge.due("noise 2", c.eye.dots(0, 0, 0), 3);
      Edge.due("unit 5", c.eye.stretch(0, 0, 0), 1000);
      Edge.due("lean 0", c.eye.look(0, 0, 0, 0, 0), 1175);
      Edge.due("lean 0, too", c.eye.look(0, 0, 1, 0, 0), 1175);
      // 3 STARS, bar 100 and ODDS of 1/9
      Edge.due("bar 100", c.eye.told(0, 0), 0);
      Edge.due("off 2", c.eye.follow(0, 0, 20, 0, 0, 0), 0);
      Edge.due("off no more than 2", c.eye.follow(0, 0, 21, 0, 0, 0), -1);
      Edge.due("step 100", c.eye.looks(0), 100);
      Edge.due("far 40, needs 3", c.eye.looks(1), 99);
      Edge.due("needs 3", c.eye.chosen(0), 3);
      Edge.due("room", c.eye.held(29), 2);
      Edge.due("room for 3, 3 pairs", c.eye.held(30), 3);
    }
  }

  private static void range(String before, String behind, int least, int most) {
    int stars = before.startsWith("star") ? 1 : 0;
    Edge.goodBook(before + least + behind, stars);
    Edge.goodBook(before + most + behind, stars);
    if (least > 0) Edge.badBook(before + (least - 1) + behind, 4, before.length());
    if (least > 1) Edge.badBook(before + 0 + behind, 4, before.length());
    if (most < 9999) Edge.badBook(before + (most + 1) + behind, 4, before.length());
    if (most < 9999) Edge.badBook(before + 9999 + behind, 4, before.length());
  }

  private static void ranges() {
    eyes();
    of("noise 0 .. 9");
    range("noise ", ";", 0, 9);
    Edge.due("noise 0, light 1", Edge.seen("noise 0;", 8, 1, 1, 1).eye.dots(0, 0, 0), 1);
    Edge.due("noise 8, light 8", Edge.seen("noise 8;", 8, 1, 1, 8).eye.dots(0, 0, 0), 0);
    Edge.due("noise 8, light 9", Edge.seen("noise 8;", 8, 1, 1, 9).eye.dots(0, 0, 0), 1);
    Edge.due("noise 9, light 9", Edge.seen("noise 9;", 8, 1, 1, 9).eye.dots(0, 0, 0), 0);
    of("off 0 .. 5");
    range("off ", ";", 0, 5);
    int[][] ends = {{0, 40, 0, 1}, {0, 40, 3, 0}, {5, 45, 0, 1}, {5, 45, 4, 0}, {5, 35, 0, 1}, {5, 34, 7, 0}};
    // the LENGTHS from STAR 0: 400, 401, 450, 451, 350, 347; the POINTS are 400 apart
    for (int[] end : ends) {
      String book = "eye wide 16 unit 5 far 9;off " + end[0] + ";" + sky(100, 100, 100 + end[1], 100 + end[2], 100, 130);
      Edge.due("off " + end[0] + " to " + end[1] + ", " + end[2], Edge.seen(book, 16, 2, 2, 9, 10, 2, 8, 2, 8, 7).eye.namings(0, 0, 0), end[3]);
    }
    bars();
    of("step 100 .. 999");
    range("step ", " needs 1;", 100, 999);
    Edge.due("step 100", Edge.goodBook("step 100 needs 1;", 0).eye.looks(0), 100);
    Edge.due("step 999", Edge.goodBook("step 999 needs 1;", 0).eye.looks(0), 4);
    of("needs 1 .. 6");
    range("step 100 needs ", ";", 1, 6);
    Edge.due("needs 1: one", Edge.goodBook("step 999 needs 1;" + sky(0, 0), 1).eye.looks(1), 3);
    String around = "step 500 needs 6;" + sky(500, 500, 520, 500, 480, 500, 500, 520, 500, 480);
    Edge.due("needs 6: five", Edge.goodBook(around, 5).eye.looks(1), 4);
    Edge.due("needs 6: six", Edge.goodBook(around + "star x at 520 520 light 1;", 6).eye.looks(1), 3);
    leans();
    of("room 1 .. 99 each.");
    range("room star ", " pair 1;", 1, 99);
    range("room star 1 pair ", ";", 1, 99);
    int[][] held = {{1, 1, 0, 0}, {1, 1, 1, 1}, {1, 1, 2, 1}, {1, 1, 3, 2}, {99, 99, 98, 0}, {99, 99, 99, 1}, {99, 99, 296, 1}, {99, 99, 297, 2},
        {99, 1, 198, 1}, {99, 1, 199, 2}, {1, 99, 100, 1}, {1, 99, 101, 2}};
    for (int[] one : held) {
      Check c = Edge.goodBook("room star " + one[0] + " pair " + one[1] + ";" + sky(0, 0, 80, 0), 2);
      Edge.due("room " + one[0] + " " + one[1] + " held " + one[2], c.eye.held(one[2]), one[3]);
    }
  }

  private static void eyes() {
    of("wide 4 .. 16");
    range("eye wide ", " unit 5 far 40;", 4, 16);
    for (int wide : new int[] {4, 16}) {
      Check c = Edge.seen("eye wide " + wide + " unit 5 far 40;", wide, wide - 1, wide - 1, 9);
      Edge.due("the last PIXEL of " + wide, c.eye.dot(0, 0, 0, 0), 10 * wide - 5);
      Edge.due("one row less", c.picture(Check.rows(wide - 1)), -1);
      Edge.due("one row more", c.picture(Check.rows(wide + 1)), -1);
    }
    of("unit 1 .. 9");
    range("eye wide 8 unit ", " far 40;", 1, 9);
    // 9: 8 and 6 PIXELS are 72 and 54; 1: 15 PIXELS are 15, and off 5 makes up for the 5 that miss to 20
    Check nine = Edge.seen("eye wide 16 unit 9 far 9;off 0;" + sky(100, 100, 172, 100, 100, 154), 16, 2, 2, 9, 10, 2, 8, 2, 8, 7);
    Edge.due("unit 9", nine.eye.stretch(0, 0, 0), 1000);
    Check one = Edge.seen("eye wide 16 unit 1 far 9;off 5;" + sky(100, 100, 118, 91, 118, 111), 16, 0, 7, 9, 15, 0, 8, 15, 15, 7);
    Edge.due("unit 1", one.eye.named(0, 0, 0, 0), 0);
    of("far 1 .. 999");
    range("eye wide 8 unit 5 far ", ";", 1, 999);
    String eye = "step 999 needs 1;eye wide 8 unit 5 far ";
    Edge.due("far 1, 1 away", Edge.goodBook(eye + "1;" + sky(0, 1), 1).eye.looks(1), 3);
    Edge.due("far 1, farther", Edge.goodBook(eye + "1;" + sky(1, 1), 1).eye.looks(1), 4);
    Edge.due("far 999, 999 away", Edge.goodBook(eye + "999;" + sky(0, 0), 1).eye.looks(1), 1);
    Edge.due("far 998, 999 away", Edge.goodBook(eye + "998;" + sky(0, 0), 1).eye.looks(1), 3);
  }

  private static void bars() {
    of("bar 1 .. 9999");
    range("bar ", ";", 1, 9999);
    // each of two LENGTHS of 250 fits all of 200, 200 and 282; the third, of 300, only the last: ODDS of 1
    String all = "eye wide 16 unit 5 far 9;off 5;" + sky(100, 100, 120, 100, 100, 120);
    int[] seen = {2, 4, 9, 5, 8, 8, 8, 4, 7};
    Check one = Edge.seen(all + "bar 1;", 16, seen);
    Edge.due("NAMINGS", one.eye.namings(0, 0, 0), 1);
    Edge.due("ODDS of 1 by", one.eye.odds(0, 0, 0, 0), 1);
    Edge.due("1", one.eye.odds(0, 0, 1, 0), 1);
    Edge.due("bar 1", one.eye.told(0, 0), 1);
    Edge.due("bar 2", Edge.seen(all + "bar 2;", 16, seen).eye.told(0, 0), 0);
    // five STARS named one behind the other by LENGTHS that one pair of 10 has: 1/10000
    String five = "eye wide 16 unit 5 far 9;off 0;" + sky(100, 100, 150, 100, 150, 125, 110, 150, 165, 165);
    int[] points = {1, 1, 9, 11, 1, 8, 11, 6, 7, 3, 11, 6, 14, 14, 5};
    Check c = Edge.seen(five + "bar 9999;", 16, points);
    Edge.due("ODDS of five", c.eye.odds(0, 0, 1, 0), 10000);
    Edge.due("bar 9999 of 1/10000", c.eye.told(0, 0), 1);
    // seven STARS, four of them named: 1/9261
    int[] four = {1, 1, 9, 11, 1, 8, 11, 6, 7, 3, 11, 6};
    String seven = "eye wide 16 unit 5 far 9;off 0;" + sky(100, 100, 150, 100, 150, 125, 110, 150, 500, 500, 600, 500, 700, 900);
    int[][] told = {{9261, 1}, {9262, 0}, {9999, 0}};
    for (int[] bar : told) {
      c = Edge.seen(seven + "bar " + bar[0] + ";", 16, four);
      Edge.due("ODDS of four", c.eye.odds(0, 0, 1, 0), 9261);
      Edge.due("bar " + bar[0] + " of 1/9261", c.eye.told(0, 0), bar[1]);
    }
  }

  private static void leans() {
    of("V -99 .. 99");
    String[] good = {"99 99", "-99 -99", "0 0", "-0 -0", "-99 99"};
    for (String lean : good) Edge.goodBook("lean " + lean + ";", 0);
    Edge.badBook("lean 100 0;", 4, 5);
    Edge.badBook("lean -100 0;", 4, 5);
    Edge.badBook("lean 0 100;", 4, 7);
    Edge.badBook("lean 0 -100;", 4, 7);
    Edge.badBook("lean 9999 0;", 4, 5);
    String stars = "off 0;" + sky(100, 100, 130, 100, 100, 120);
    Check c = Edge.seen("lean 99 -99;" + stars, 8, 0, 0, 9, 6, 0, 8, 0, 4, 7);
    Edge.due("99", c.eye.look(0, 0, 0, 0, 0), 1175 + 990);
    Edge.due("-99", c.eye.look(0, 0, 1, 0, 0), 1175 - 990);
  }

  private static void places() {
    of("FAULTS, the first by its place");
    Edge.badBook("bar 0; $", 4, 4);
    Edge.badBook("$ bar 0;", 1, 0);
    Edge.badBook("off off $ bar 0", 2, 4);
    int ahead = sky(1, 1).length();
    Edge.badBook(sky(1, 1) + "star saa at 1 1 light 0;", 3, ahead + 5);
    Edge.badBook(sky(1, 1) + "star b at 1 1 light 0;", 6, ahead + 10);
    Edge.badBook(sky(1, 1) + "star b at 1 1 $", 6, ahead + 10);
    Edge.badBook(sky(1, 1) + "star b at 1 1", 6, ahead + 10);
    Edge.badBook(sky(1, 1) + "star b at 1 $ light", 1, ahead + 12);
    Edge.badBook(sky(1, 1) + "star b at 1 1000 light 0;", 4, ahead + 12);
    Edge.badBook(sky(1, 1) + "star b at 1 ;", 2, ahead + 12);
    of("(bytes from 0; the end: the text's length; of V its place is that of its sign, if it has one)");
    Edge.badBook("x", 2, 0);
    Edge.badBook(" x", 2, 1);
    Edge.badBook("off", 2, 3);
    Edge.badBook("off \n ", 2, 6);
    Edge.badBook("off 1", 2, 5);
    Edge.badBook("lean -100 0;", 4, 5);
    Edge.badBook("lean - 100 0;", 4, 5);
    Edge.badBook("lean  100 0;", 4, 6);
    Edge.badBook("lean 0 - \n 100;", 4, 7);
    Edge.badBook("lean 0 -x;", 2, 8);
    of("at one place the least:");
    Edge.badBook(sky(990, 1) + "star b at 1000 1 light 1;", 4, sky(990, 1).length() + 10);
    Edge.badBook("bar abcdefghi;", 1, 4);
    Edge.badBook("star abcdefghi", 1, 5);
    Edge.badBook("star 12345", 1, 5);
    Edge.badBook("off 12345;", 1, 4);
    Edge.badBook("off 9x;", 1, 4);
  }

  private static void faults() {
    of("1 no TOKEN;");
    for (String sign : new String[] {"$", "(", "<", "=", "+", ",", "_", "\t", "\r", "\0", "\u00e9", "\u00ff", "A"}) {
      Edge.badBook(sign, 1, 0);
      Edge.badBook("off 1; " + sign, 1, 7);
      Edge.badBook("off" + sign, 1, 3);
    }
    of("2 one that can't stand there");
    String[] first = {"at", "wide", "needs", "pair", "trust", "not", "x", "5", ";", "-"};
    for (String word : first) {
      Edge.badBook(word, 2, 0);
      Edge.badBook("off 1;" + word, 2, 6);
    }
    Edge.badBook("star ;", 2, 5);
    Edge.badBook("star 5", 2, 5);
    Edge.badBook("off x", 2, 4);
    of("(a 33rd STAR, a line a second time: at the line's first word);");
    int before = manyStars(32).length();
    Edge.badBook(manyStars(32) + " star", 2, before + 1);
    Edge.badBook(manyStars(32) + " star b at 1 1 light 0;", 2, before + 1);
    Edge.badBook(manyStars(32) + " star saa", 2, before + 1);
    for (String line : OTHER_LINES) {
      Edge.badBook(line + "\n" + line.substring(0, line.indexOf(' ')), 2, line.length() + 1);
      Edge.badBook(line + "\n" + line.substring(0, line.indexOf(' ')) + " $", 2, line.length() + 1);
    }
    of("3 a NAME told already;");
    Edge.badBook(sky(1, 1) + "star saa", 3, sky(1, 1).length() + 5);
    Edge.badBook(sky(1, 1, 50, 50, 99, 99) + "star saa at 500 500 light 1;", 3, sky(1, 1, 50, 50, 99, 99).length() + 5);
    Edge.badBook(manyStars(31) + "star " + name(30), 3, manyStars(31).length() + 5);
    Edge.badBook("star abcdefgh at 1 1 light 1;star abcdefgh at 99 1 light 1;", 3, 34);
    Edge.goodBook("star abcdefgh at 1 1 light 1;star abcdefgg at 99 1 light 1;star bcdefgh at 199 1 light 1;", 3);
    of("4 a number that can't be;");
    Edge.badBook("off 6", 4, 4);
    Edge.badBook("off 0006", 4, 4);
    Edge.badBook("star a at 1000", 4, 10);
    Edge.badBook("star a at 1 1 light 100", 4, 20);
    Edge.badBook("step 99 needs 7;", 4, 5);
    Edge.badBook("step 100 needs 7;", 4, 15);
  }

  private static void near() {
    of("6 a STAR nearer than 20 to one told ahead (at its first N).");
    int[][] by = {{20, 0, 0}, {19, 0, 6}, {19, 6, 6}, {19, 7, 0}, {12, 16, 0}, {12, 15, 6}, {11, 16, 6}, {14, 14, 6}, {14, 15, 0}, {0, 0, 6}, {20, 1, 0}};
    for (int[] one : by) {
      for (int turn = 0; turn < 8; turn++) {
        int x = 500 + (turn % 2 == 0 ? one[0] : -one[0]);
        int y = 500 + (turn / 2 % 2 == 0 ? one[1] : -one[1]);
        String text = sky(500, 500) + "star b at " + (turn < 4 ? x + " " + y : y + " " + x) + " light 1;";
        if (one[2] == 0) Edge.goodBook(text, 2);
        else Edge.badBook(text, 6, sky(500, 500).length() + 10);
      }
    }
    String three = sky(100, 100, 500, 500, 900, 900);
    int place = three.length() + 10;
    Edge.badBook(three + "star x at 119 100 light 1;", 6, place);
    Edge.badBook(three + "star x at 500 481 light 1;", 6, place);
    Edge.badBook(three + "star x at 900 919 light 1;", 6, place);
    Edge.goodBook(three + "star x at 120 100 light 1;", 4);
    Edge.badBook(manyStars(31) + "star x at 0 19 light 1;", 6, manyStars(31).length() + 10);
    Edge.goodBook(manyStars(31) + "star x at 0 20 light 1;", 32);
  }
}
