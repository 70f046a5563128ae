/** Terms 2: PICTURES, when they count, DOTS, SMEARS, SPECKS and POINTS. */
final class EdgesOfPictures {
  private static final String HERE = "Terms 2";
  private static final String FOUR = "eye wide 4 unit 5 far 40;";
  private static final String SIXTEEN = "eye wide 16 unit 5 far 40;";

  static void run() {
    length();
    rows();
    faults();
    twelve();
    known();
    dots();
    middles();
    order();
    firstTwelve();
    smears();
    specks();
    pixelsOfSpecks();
    points();
  }

  private static void of(String sentence) {
    Edge.of(HERE, sentence);
  }

  private static void length() {
    of("A PICTURE is a text of at most 400 bytes:");
    String rows = "0000;0000;0000;0090;";
    Edge.goodPicture(FOUR, rows);
    Edge.goodPicture(FOUR, rows + " ".repeat(380));
    Edge.goodPicture(FOUR, " ".repeat(380) + rows);
    Edge.badPicture(FOUR, rows + " ".repeat(379) + "$", 1, 399);
    Check c = new Check();
    c.book(FOUR);
    Edge.due("401 bytes", c.picture(rows + " ".repeat(381)), -2);
    c.eye.end(0);
    Edge.due("1500 bytes", c.picture(rows + " ".repeat(1480)), -2);
    Edge.due("none is told", c.eye.about(1), 0);
  }

  private static void rows() {
    of("wide rows of wide digits (the light of PIXELS, 0 .. 9, from the left; the first row above), each row with a ; behind it;");
    for (int wide = 4; wide <= 16; wide++) {
      String book = "eye wide " + wide + " unit 5 far 40;";
      String rows = Check.rows(wide);
      Edge.goodPicture(book, rows);
      Edge.badPicture(book, rows.substring(0, rows.length() - 1), 2, rows.length() - 1);
      Edge.badPicture(book, rows + "0", 2, rows.length());
    }
    Check c = Edge.seen("noise 0;" + FOUR, 4);
    c.picture("0008;0000;0000;7000;");
    Edge.due("the right one's x", c.eye.dot(1, 0, 0, 0), 35);
    Edge.due("the upper one's y", c.eye.dot(1, 0, 1, 0), 5);
    Edge.due("the left one's x", c.eye.dot(1, 1, 0, 0), 5);
    Edge.due("the lower one's y", c.eye.dot(1, 1, 1, 0), 35);
    for (int light = 0; light <= 9; light++) {
      c.picture("0000;0000;0" + light + "00;0000;");
      Edge.due("light " + light, c.eye.dot(light + 2, 0, 2, 0), light == 0 ? -1 : light);
    }
    of("blanks anywhere.");
    Edge.goodPicture(FOUR, " 0 0\n0\n0 ;\n0000 ; 0000;00 00;\n ");
    Edge.goodPicture(FOUR, "\n\n0000;0000;0000;0000;\n\n");
  }

  private static void faults() {
    of("FAULTS 1 (no digit, ;, blank)");
    for (int sign = 0; sign < 256; sign++) {
      char one = (char) sign;
      boolean fine = sign == 32 || sign == 10;
      boolean digit = one >= '0' && one <= '9';
      if (fine) Edge.goodPicture(FOUR, "00" + one + "00;0000;0000;0000;");
      else Edge.badPicture(FOUR, "00" + one + "00;0000;0000;0000;", digit || one == ';' ? 2 : 1, digit ? 4 : 2);
    }
    Edge.badPicture(FOUR, "0000;0000;0000;0000;-", 1, 20);
    Edge.badPicture(FOUR, "0000;0000;0000;0000; x", 1, 21);
    of("2 (a digit too many in a row, a ; too early, anything behind the last row; the end, if it comes too early).");
    Edge.badPicture(FOUR, "00000;000;0000;0000;", 2, 4);
    Edge.badPicture(FOUR, "0000 0", 2, 5);
    Edge.badPicture(FOUR, "00000$", 2, 4);
    Edge.badPicture(FOUR, ";", 2, 0);
    Edge.badPicture(FOUR, "000;", 2, 3);
    Edge.badPicture(FOUR, "0000;;", 2, 5);
    Edge.badPicture(FOUR, "0000;0000;0000;0000;0", 2, 20);
    Edge.badPicture(FOUR, "0000;0000;0000;0000;;", 2, 20);
    Edge.badPicture(FOUR, "0000;0000;0000;0000;\n 0", 2, 22);
    String whole = "0000;0000;0000;0000;";
    for (int cut = 0; cut < whole.length(); cut++) {
      Edge.badPicture(FOUR, whole.substring(0, cut), 2, cut);
      Edge.badPicture(FOUR, whole.substring(0, cut) + "  ", 2, cut + 2);
    }
    Edge.goodPicture(FOUR, whole);
    // nothing of a text with a FAULT, or of one of another BOOK, is seen in the next one
    Check c = new Check();
    c.book(SIXTEEN + "noise 2;");
    c.picture("9999999999999999;".repeat(15));
    c.picture("2222222222222222;".repeat(16));
    Edge.due("noise alone", c.eye.dots(0, 0, 0), 0);
    c.picture("9999999999999999;".repeat(16) + ";");
    c.book(FOUR + "noise 0;");
    c.picture(whole);
    Edge.due("4 wide behind 16", c.eye.dots(0, 0, 0), 0);
    c.picture("0000;0000;0000;0009;");
    Edge.due("PIXELS", c.eye.dot(1, 0, 4, 0), 1);
  }

  private static void twelve() {
    of("12 at most are TOLD at a TIME (0 at first, goes on)");
    Check c = new Check();
    Edge.due("the TIME at first", c.eye.about(3), 0);
    for (int i = 0; i < 12; i++) {
      Edge.due("PICTURE " + i, c.stars(8, i % 8, i / 8, 9), i);
      Edge.due("later", c.eye.later(1), i + 1);
    }
    Edge.due("a 13th", c.stars(8), -3);
    Edge.due("PICTURES", c.eye.about(1), 12);
    for (int i = 0; i < 12; i++) {
      Edge.due(i + " as known before", c.eye.dots(i, 0, i - 1), -1);
      Edge.due(i + " as known then", c.eye.dots(i, 0, i), 1);
    }
    c.eye.untell(3);
    Edge.due("UNTOLD ones are among the 12", c.stars(8), -3);
    of("UNTOLD at a later one or the same;");
    c = new Check();
    c.eye.later(5);
    for (int i = 0; i < 3; i++) c.stars(8, 1, 1, 9);
    Edge.due("at the same", c.eye.untell(0), true);
    c.eye.later(1);
    Edge.due("at a later one", c.eye.untell(1), true);
    int[][] counts = {{4, -1, -1, -1}, {5, -1, 1, 1}, {6, -1, -1, 1}, {7, -1, -1, 1}};
    for (int[] one : counts) {
      for (int p = 0; p < 3; p++) Edge.due(p + " as known at " + one[0], c.eye.dots(p, 0, one[0]), one[1 + p]);
    }
  }

  private static void known() {
    of("as known at k those count that were TOLD at k or before, not UNTOLD at k or before;");
    Check c = new Check();
    c.eye.later(10);
    c.stars(8, 1, 1, 9);
    c.eye.later(10);
    c.eye.untell(0);
    int[][] due = {{Integer.MIN_VALUE, -1}, {-1, -1}, {0, -1}, {9, -1}, {10, 1}, {11, 1}, {19, 1}, {20, -1}, {21, -1}, {Integer.MAX_VALUE, -1}};
    for (int[] one : due) {
      Edge.due("dots at " + one[0], c.eye.dots(0, 0, one[0]), one[1]);
      Edge.due("believed at " + one[0], c.eye.believed(one[0]), one[1] < 0 ? -1 : 0);
      Edge.due("trust at " + one[0], c.eye.trust(0, one[0]), one[1] < 0 ? -1 : 0);
      Edge.due("point at " + one[0], c.eye.point(0, 0, one[0]), one[1] < 0 ? -1 : 0);
    }
    c.stars(8, 1, 1, 9);
    Edge.due("one that stays", c.eye.dots(1, 0, Integer.MAX_VALUE), 1);
    Edge.due("one that is not told yet", c.eye.dots(1, 0, 19), -1);
    of("another BOOK leaves none.");
    Edge.due("another BOOK", c.book(""), 0);
    Edge.due("PICTURES", c.eye.about(1), 0);
    for (int p = 0; p < 2; p++) Edge.due("dots of " + p, c.eye.dots(p, 0, 20), -1);
    Edge.due("the TIME goes on", c.eye.about(3), 20);
    of("They are numbered as told.");
    for (int i = 0; i < 4; i++) Edge.due("its number", c.stars(8, i, 0, 5 + i), i);
    c.eye.untell(1);
    Edge.due("the next one's", c.stars(8, 4, 0, 9), 4);
    for (int i = 0; i < 5; i++) Edge.due("LIGHT of " + i, c.eye.dot(i, 0, 2, 20), i == 1 ? -1 : 5 + i);
  }

  private static void dots() {
    of("DOTS of a PICTURE: parts of PIXELS with more light than noise that hang together side by side (left, right, above, below).");
    for (int noise = 0; noise <= 9; noise++) {
      Check c = Edge.seen("noise " + noise + ";", 8, 1, 1, noise);
      Edge.due("light " + noise + " by noise " + noise, c.eye.dots(0, 0, 0), 0);
      if (noise < 9) c.stars(8, 1, 1, noise + 1);
      if (noise < 9) Edge.due("light " + (noise + 1) + " by noise " + noise, c.eye.dots(1, 0, 0), 1);
    }
    int[][] by = {{1, 0, 1}, {-1, 0, 1}, {0, 1, 1}, {0, -1, 1}, {1, 1, 2}, {-1, 1, 2}, {1, -1, 2}, {-1, -1, 2}, {2, 0, 2}, {0, 2, 2}};
    for (int[] one : by) {
      Check c = Edge.seen("", 8, 4, 4, 9, 4 + one[0], 4 + one[1], 8);
      Edge.due("by " + one[0] + ", " + one[1], c.eye.dots(0, 0, 0), one[2]);
    }
    Edge.due("a PIXEL of noise parts them", Edge.seen("", 8, 3, 4, 9, 4, 4, 2, 5, 4, 9).eye.dots(0, 0, 0), 2);
    Edge.due("a row's end and the next one's beginning", Edge.seen("", 8, 7, 3, 9, 0, 4, 9).eye.dots(0, 0, 0), 2);
    Edge.due("the last row and the first", Edge.seen("", 8, 5, 7, 9, 5, 0, 9).eye.dots(0, 0, 0), 2);
    Edge.due("16 wide, a row's end", Edge.seen(SIXTEEN, 16, 15, 3, 9, 0, 4, 9).eye.dots(0, 0, 0), 2);
    Edge.due("nothing but noise", Edge.seen("", 8).eye.dots(0, 0, 0), 0);
    String[] shapes = {"0090;0090;9990;0000;", "9990;9000;0000;0000;", "9990;0090;0000;0000;", "9000;9990;0000;0000;", "9090;9990;0000;0000;",
        "9990;9090;0000;0000;", "9990;0090;0990;0900;", "0999;0909;0009;0999;", "0009;0999;0900;9900;", "9099;9009;9999;0000;"};
    for (String shape : shapes) {
      Check one = new Check();
      one.book(FOUR);
      one.picture(shape);
      Edge.due(shape, one.eye.dots(0, 0, 0), 1);
    }
    // two arms that meet below hang together
    Edge.due("arms", Edge.seen("", 8, 1, 1, 9, 1, 2, 9, 1, 3, 9, 2, 3, 9, 3, 3, 9, 3, 2, 9, 3, 1, 9).eye.dots(0, 0, 0), 1);
    of("LIGHT: all of theirs.");
    Check c = new Check();
    c.book(SIXTEEN + "noise 0;");
    c.picture("9999999999999999;".repeat(16));
    Edge.due("all PIXELS", c.eye.dot(0, 0, 4, 0), 256);
    Edge.due("all light", c.eye.dot(0, 0, 2, 0), 9 * 256);
    c.stars(16, 15, 15, 1);
    Edge.due("the least", c.eye.dot(1, 0, 2, 0), 1);
    Edge.due("noise's own light does not count", Edge.seen("noise 4;", 8, 1, 1, 5, 2, 1, 4).eye.dot(0, 0, 2, 0), 5);
  }

  private static void middles() {
    of("MIDDLE x: the sum of (10 * column + 5) * light, by LIGHT (cut), y likewise by rows: tenths of PIXELS.");
    Check c = Edge.seen(SIXTEEN + "noise 0;", 16, 0, 0, 1, 15, 0, 1, 0, 15, 1, 15, 15, 1);
    int[][] corners = {{5, 5}, {155, 5}, {5, 155}, {155, 155}};
    for (int i = 0; i < 4; i++) {
      Edge.due("x of corner " + i, c.eye.dot(0, i, 0, 0), corners[i][0]);
      Edge.due("y of corner " + i, c.eye.dot(0, i, 1, 0), corners[i][1]);
    }
    // two PIXELS of 9 and 8: (5 * 9 + 15 * 8) / 17 = 165 / 17 = 9.7
    c = Edge.seen("", 8, 0, 0, 9, 1, 0, 8);
    Edge.due("cut x", c.eye.dot(0, 0, 0, 0), 9);
    Edge.due("the row's y", c.eye.dot(0, 0, 1, 0), 5);
    c = Edge.seen("", 8, 0, 0, 9, 0, 1, 8);
    Edge.due("the column's x", c.eye.dot(0, 0, 0, 0), 5);
    Edge.due("cut y", c.eye.dot(0, 0, 1, 0), 9);
    c = Edge.seen("", 8, 0, 0, 9, 1, 0, 9);
    Edge.due("10 is not cut", c.eye.dot(0, 0, 0, 0), 10);
    c = Edge.seen("", 8, 0, 0, 8, 1, 0, 9);
    Edge.due("175 / 17", c.eye.dot(0, 0, 0, 0), 10);
    c.picture("9".repeat(8).concat(";").repeat(8));
    Edge.due("of all PIXELS", c.eye.dot(1, 0, 0, 0), 40);
  }

  private static void order() {
    of("They are numbered by LIGHT, the most first; of like ones by MIDDLE y, then x, then the first PIXEL (row by row).");
    Check c = Edge.seen("", 8, 0, 0, 5, 7, 7, 6);
    Edge.due("more LIGHT by 1 is ahead", c.eye.dot(0, 0, 0, 0), 75);
    c.stars(8, 7, 0, 6, 0, 1, 6);
    Edge.due("of like ones the upper one", c.eye.dot(1, 0, 0, 0), 75);
    c.stars(8, 7, 1, 6, 0, 0, 3, 0, 1, 3);
    // 3 above 3: the MIDDLE's y is 10, above 15
    Edge.due("upper by its MIDDLE", c.eye.dot(2, 0, 4, 0), 2);
    c.stars(8, 7, 1, 6, 0, 1, 3, 0, 2, 3);
    Edge.due("lower by its MIDDLE, though it is the left one", c.eye.dot(3, 0, 0, 0), 75);
    c.stars(8, 7, 1, 6, 0, 1, 6, 4, 1, 6);
    int[] x = {5, 45, 75};
    for (int i = 0; i < 3; i++) Edge.due("then the left one " + i, c.eye.dot(4, i, 0, 0), x[i]);
    // LIGHT 31, MIDDLE (25, 29) both: the bar's first PIXEL is in row 0, that of what lies around it in row 1, farther left
    c = new Check();
    c.book("eye wide 7 unit 5 far 40;noise 0;");
    c.picture("0020000;9090900;1020100;1090100;1090100;1000100;1111100;");
    for (int what = 0; what < 3; what++) {
      Edge.due("alike in " + what, c.eye.dot(0, 0, what, 0), c.eye.dot(0, 1, what, 0));
    }
    Edge.due("LIGHT", c.eye.dot(0, 0, 2, 0), 31);
    Edge.due("the bar", c.eye.dot(0, 0, 4, 0), 5);
    Edge.due("what lies around", c.eye.dot(0, 1, 4, 0), 15);
    c.picture("1111100;1000100;1090100;1090100;1020100;9090900;0020000;");
    Edge.due("upside down: what lies around first", c.eye.dot(1, 0, 4, 0), 15);
    Edge.due("then the bar", c.eye.dot(1, 1, 4, 0), 5);
  }

  private static void firstTwelve() {
    of("At most the first 12 count.");
    int[] pixels = new int[39];
    for (int i = 0; i < 13; i++) {
      pixels[3 * i] = 2 * (i % 8);
      pixels[3 * i + 1] = 2 * (i / 8);
      pixels[3 * i + 2] = 5;
    }
    Check c = new Check();
    c.book(SIXTEEN);
    c.stars(16, java.util.Arrays.copyOf(pixels, 36));
    Edge.due("12", c.eye.dots(0, 0, 0), 12);
    Edge.due("the 12th", c.eye.dot(0, 11, 0, 0), 65);
    c.stars(16, pixels);
    Edge.due("13", c.eye.dots(1, 0, 0), 12);
    Edge.due("the 12th of 13", c.eye.dot(1, 11, 0, 0), 65);
    Edge.due("the 13th of 13", c.eye.dot(1, 12, 0, 0), -1);
    pixels[38] = 6;
    c.stars(16, pixels);
    Edge.due("the last one has the most LIGHT", c.eye.dot(2, 0, 0, 0), 85);
    Edge.due("then the one before is left out", c.eye.dot(2, 11, 0, 0), 45);
    // what lies in the PIXEL of three PICTURES' 13th DOTS is no SPECK
    c.book(SIXTEEN);
    pixels[38] = 5;
    for (int i = 0; i < 3; i++) c.stars(16, pixels);
    Edge.due("12 SPECKS", c.eye.dots(0, 2, 0), 12);
    c.stars(16, 8, 2, 9);
    Edge.due("the 13th makes no SPECK", c.eye.dots(3, 2, 0), 0);
    c.book(SIXTEEN);
    for (int i = 0; i < 2; i++) c.stars(16, 8, 2, 9);
    c.stars(16, java.util.Arrays.copyOfRange(pixels, 3, 39));
    Edge.due("as the 12th it does", c.eye.dots(0, 2, 0), 1);
    smearsLeftOut();
  }

  /** SMEARS that more LIGHT drives out of the first 12 are none of the PICTURE's SMEARS. */
  private static void smearsLeftOut() {
    String none = "0000000000000000;";
    String eight = "9090909090909090;";
    String three = "9090900000000000;";
    String smears = "0111100111100000;";
    int[][] due = {{10, 2}, {11, 1}, {12, 0}, {16, 0}};
    String[] bright = {eight + none + "9090000000000000;", eight + none + three, eight + none + "9090909000000000;", eight + none + eight};
    for (int i = 0; i < 4; i++) {
      Check c = new Check();
      c.book(SIXTEEN + "noise 0;");
      c.picture(smears + none + bright[i] + none.repeat(11));
      Edge.due("DOTS, " + due[i][0] + " of more LIGHT", c.eye.dots(0, 0, 0), 12);
      Edge.due("SMEARS behind " + due[i][0], c.eye.dots(0, 1, 0), due[i][1]);
      Edge.due("POINTS", c.eye.dots(0, 3, 0), 12 - due[i][1]);
      Edge.due("the last one's kind", c.eye.dot(0, 11, 3, 0), due[i][1] > 0 ? 1 : 0);
      Edge.due("the first one's kind", c.eye.dot(0, 0, 3, 0), 0);
    }
  }

  private static void smears() {
    of("A DOT is a SMEAR, if its PIXELS reach over more than 3 columns or 3 rows.");
    String[] none = {"9000;0000;0000;0000;", "9990;0000;0000;0000;", "9000;9000;9000;0000;", "9990;9990;9990;0000;", "9900;0990;0000;0000;",
        "0000;0999;0009;0009;"};
    String[] smears = {"9999;0000;0000;0000;", "9000;9000;9000;9000;", "9000;9999;0000;0000;", "9900;0900;0900;0990;", "9990;0099;0000;0000;",
        "9999;9999;9999;9999;"};
    for (int i = 0; i < none.length; i++) {
      Check c = new Check();
      c.book(FOUR);
      c.picture(none[i]);
      c.picture(smears[i]);
      Edge.due(none[i], c.eye.dots(0, 1, 0), 0);
      Edge.due(none[i] + " kind", c.eye.dot(0, 0, 3, 0), 0);
      Edge.due(smears[i], c.eye.dots(1, 1, 0), 1);
      Edge.due(smears[i] + " kind", c.eye.dot(1, 0, 3, 0), 1);
    }
    Check c = Edge.seen(SIXTEEN, 16, 13, 14, 9, 14, 14, 9, 15, 14, 9);
    Edge.due("3 at the edge", c.eye.dots(0, 1, 0), 0);
    c.stars(16, 12, 14, 9, 13, 14, 9, 14, 14, 9, 15, 14, 9);
    Edge.due("4 at the edge", c.eye.dots(1, 1, 0), 1);
    // PIXELS of noise are none of its PIXELS
    Edge.due("a fourth of noise", Edge.seen("", 8, 0, 0, 9, 1, 0, 9, 2, 0, 9, 3, 0, 2).eye.dots(0, 1, 0), 0);
  }

  private static void specks() {
    of("One that is no SMEAR is a SPECK (as known at k), if at least 3 PICTURES count, and in each of these there is a DOT whose MIDDLE lies "
        + "in the same PIXEL;");
    Check c = new Check();
    for (int i = 0; i < 3; i++) {
      c.stars(8, 3, 3, 9, i, 7, 8);
      Edge.due("SPECKS of " + (i + 1), c.eye.dots(0, 2, i), i == 2 ? 1 : 0);
      c.eye.later(1);
    }
    for (int p = 0; p < 3; p++) {
      Edge.due("as known at 1", c.eye.dots(p, 2, 1), p == 2 ? -1 : 0);
      Edge.due("as known at 2", c.eye.dots(p, 2, 2), 1);
      Edge.due("which", c.eye.dot(p, 0, 3, 2), 2);
      Edge.due("which not", c.eye.dot(p, 1, 3, 2), 0);
    }
    c.eye.untell(1);
    Edge.due("two count again", c.eye.dots(0, 2, 3), 0);
    Edge.due("three did", c.eye.dots(0, 2, 2), 1);
    c.stars(8, 3, 3, 4);
    Edge.due("three again", c.eye.dots(0, 2, 3), 1);
    c.stars(8, 2, 3, 9);
    Edge.due("not in each", c.eye.dots(0, 2, 3), 0);
    c.eye.untell(4);
    Edge.due("in each that counts", c.eye.dots(0, 2, 3), 1);
    c.stars(8, 2, 3, 9, 3, 3, 9, 4, 3, 9, 5, 3, 3);
    // (25 + 35 + 45) * 9 + 55 * 3 by 30: 37
    Edge.due("a SMEAR is a DOT there, too", c.eye.dots(0, 2, 3), 1);
    Edge.due("but no SPECK", c.eye.dots(5, 2, 3), 0);
    Edge.due("its kind", c.eye.dot(5, 0, 3, 3), 1);
    c.stars(8);
    Edge.due("a PICTURE without DOTS", c.eye.dots(0, 2, 3), 0);
    Edge.due("has none itself", c.eye.dots(6, 2, 3), 0);
    Check full = new Check();
    for (int i = 0; i < 12; i++) full.stars(8, 0, 0, 9, 7, 7, 8, 7, 0, 3 + i % 2);
    Edge.due("of 12 PICTURES", full.eye.dots(11, 2, 0), 3);
  }

  /** Two PICTURES with a DOT in (3, 3), and one with another DOT: is it a SPECK? */
  private static void sameAs33(boolean due, int... pixels) {
    Check c = new Check();
    c.stars(8, 3, 3, 9);
    c.stars(8, 3, 3, 9);
    c.stars(8, pixels);
    Edge.due("MIDDLE " + c.eye.dot(2, 0, 0, 0) + ", " + c.eye.dot(2, 0, 1, 0), c.eye.dots(0, 2, 0), due ? 1 : 0);
    Edge.due("of its own", c.eye.dots(2, 2, 0), due ? 1 : 0);
  }

  private static void pixelsOfSpecks() {
    sameAs33(true, 3, 3, 9);
    sameAs33(false, 4, 3, 9);
    sameAs33(false, 3, 4, 9);
    sameAs33(false, 2, 3, 9);
    sameAs33(false, 3, 2, 9);
    sameAs33(true, 2, 3, 9, 3, 3, 9);
    sameAs33(false, 2, 3, 9, 3, 3, 8);
    sameAs33(false, 3, 3, 9, 4, 3, 9);
    sameAs33(true, 3, 3, 9, 4, 3, 8);
    sameAs33(true, 3, 2, 9, 3, 3, 9);
    sameAs33(false, 3, 2, 9, 3, 3, 8);
    sameAs33(false, 3, 3, 9, 3, 4, 9);
    sameAs33(true, 3, 3, 9, 3, 4, 8);
    // the first PIXEL and the last: where a PICTURE has no DOT there, none of the others' is a SPECK
    for (int at : new int[] {0, 7}) {
      Check c = new Check();
      for (int i = 0; i < 2; i++) c.stars(8, at, at, 9, 3, 4, 8);
      c.stars(8, 3, 4, 8);
      Edge.due("SPECKS beside " + at + ", " + at, c.eye.dots(0, 2, 0), 1);
      Edge.due("that one is none", c.eye.dot(0, 0, 3, 0), 0);
    }
    of("unless that PIXEL is told to be no SPECK.");
    Check c = new Check();
    for (int i = 0; i < 3; i++) c.stars(8, 3, 3, 9, 7, 7, 8, 0, 0, 7);
    Edge.due("all three", c.eye.dots(1, 2, 0), 3);
    int[][] around = {{2, 3}, {4, 3}, {3, 2}, {3, 4}, {7, 0}, {0, 7}};
    for (int[] one : around) c.eye.speckless(one[0], one[1], true);
    Edge.due("PIXELS beside them", c.eye.dots(1, 2, 0), 3);
    c.eye.speckless(3, 3, true);
    Edge.due("two", c.eye.dots(1, 2, 0), 2);
    Edge.due("the first is none", c.eye.dot(1, 0, 3, 0), 0);
    c.eye.speckless(7, 7, true);
    c.eye.speckless(0, 0, true);
    Edge.due("none", c.eye.dots(1, 2, 0), 0);
    c.eye.speckless(7, 7, false);
    Edge.due("one again", c.eye.dot(1, 1, 3, 0), 2);
  }

  private static void points() {
    of("POINTS: DOTS that are neither, in their order.");
    Check c = new Check();
    c.book(SIXTEEN);
    for (int i = 0; i < 3; i++) c.stars(16, 0, 0, 9, 1, 0, 9, 2, 0, 9, 3, 0, 9, 8, 8, 9, 12, i, 8, 14, 14, 7, 4, 6 + i, 6);
    // DOTS: a SMEAR, a SPECK, a POINT, a SPECK, a POINT
    Edge.due("DOTS", c.eye.dots(2, 0, 0), 5);
    Edge.due("SMEARS", c.eye.dots(2, 1, 0), 1);
    Edge.due("SPECKS", c.eye.dots(2, 2, 0), 2);
    Edge.due("POINTS", c.eye.dots(2, 3, 0), 2);
    int[] points = {2, 4, -1};
    for (int i = 0; i < 3; i++) Edge.due("POINT " + i, c.eye.point(2, i, 0), points[i]);
    Edge.due("no POINTS", Edge.seen("", 8).eye.dots(0, 3, 0), 0);
    Check twelve = new Check();
    twelve.book(SIXTEEN);
    twelve.picture("0000000000000000;9090909090909090;0000000000000000;9090909000000000;" + "0000000000000000;".repeat(12));
    Edge.due("12 POINTS", twelve.eye.dots(0, 3, 0), 12);
    for (int i = 0; i < 12; i++) Edge.due("POINT " + i + " of 12", twelve.eye.point(0, i, 0), i);
    Edge.due("a 13th", twelve.eye.point(0, 12, 0), -1);
  }
}
