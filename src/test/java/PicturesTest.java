/** Promises 8 to 13: UNTOLD and the TIME, PIXELS that are no SPECKS, DOTS and POINTS. */
final class PicturesTest {
  public static void main(String[] args) {
    untold();
    later();
    speckless();
    middles();
    orderOfDots();
    noise();
    smears();
    specks();
    specksInCorners();
    atMostTwelveDots();
    wrongInputs();
    Check.finish("PicturesTest");
  }

  private static void untold() {
    Check c = new Check();
    Check.due("untell of none", c.eye.untell(0), false);
    Check.due("picture", c.stars(8, 1, 1, 9), 0);
    c.eye.later(5);
    Check.due("picture", c.stars(8, 1, 1, 9, 4, 4, 5), 1);
    c.eye.later(5);
    Check.due("untell", c.eye.untell(0), true);
    Check.due("again", c.eye.untell(0), false);
    Check.due("-1", c.eye.untell(-1), false);
    Check.due("2", c.eye.untell(2), false);
    Check.due("MAX", c.eye.untell(Integer.MAX_VALUE), false);
    Check.due("0 at -1", c.eye.dots(0, 0, -1), -1);
    Check.due("0 at 0", c.eye.dots(0, 0, 0), 1);
    Check.due("0 at 9", c.eye.dots(0, 0, 9), 1);
    Check.due("0 at 10", c.eye.dots(0, 0, 10), -1);
    Check.due("0 at MAX", c.eye.dots(0, 0, Integer.MAX_VALUE), -1);
    Check.due("1 at 4", c.eye.dots(1, 0, 4), -1);
    Check.due("1 at 5", c.eye.dots(1, 0, 5), 2);
    Check.due("1 at MAX", c.eye.dots(1, 0, Integer.MAX_VALUE), 2);
    Check.due("about(1) counts both", c.eye.about(1), 2);
    Check.due("picture", c.stars(8), 2);
    Check.due("untell at the same time", c.eye.untell(2), true);
    Check.due("2 never counts", c.eye.dots(2, 0, 10), -1);
    c.stars(8);
    c.book("");
    for (int picture = 0; picture < 4; picture++) Check.due("untell behind another book", c.eye.untell(picture), false);
  }

  private static void later() {
    StarEye eye = new StarEye();
    Check.due("later 0", eye.later(0), 0);
    Check.due("later -1", eye.later(-1), -1);
    Check.due("later 1001", eye.later(1001), -1);
    Check.due("later MAX", eye.later(Integer.MAX_VALUE), -1);
    Check.due("later MIN", eye.later(Integer.MIN_VALUE), -1);
    for (int i = 1; i <= 99; i++) Check.due("later 1000", eye.later(1000), 1000 * i);
    Check.due("later 999", eye.later(999), 99999);
    Check.due("later 2", eye.later(2), -1);
    Check.due("the time", eye.about(3), 99999);
    Check.due("later 1", eye.later(1), 100000);
    Check.due("later 1 more", eye.later(1), -1);
    Check.due("later 0 at the end", eye.later(0), 100000);
  }

  private static void speckless() {
    Check c = new Check();
    c.book("eye wide 5 unit 1 far 1;");
    Check.due("may be one already", c.eye.speckless(0, 0, false), false);
    Check.due("told", c.eye.speckless(0, 0, true), true);
    Check.due("again", c.eye.speckless(0, 0, true), false);
    Check.due("the last", c.eye.speckless(4, 4, true), true);
    Check.due("about(6)", c.eye.about(6), 2);
    Check.due("column 5", c.eye.speckless(5, 0, true), false);
    Check.due("row 5", c.eye.speckless(0, 5, true), false);
    Check.due("column -1", c.eye.speckless(-1, 0, true), false);
    Check.due("row -1", c.eye.speckless(0, -1, true), false);
    Check.due("column MAX", c.eye.speckless(Integer.MAX_VALUE, 0, true), false);
    Check.due("back", c.eye.speckless(0, 0, false), true);
    Check.due("again", c.eye.speckless(0, 0, false), false);
    Check.due("about(6)", c.eye.about(6), 1);
  }

  private static void middles() {
    Check c = new Check();
    // 3 5 / 4: x (5*3 + 15*5 + 5*4) / 12 = 110 / 12, y (5*8 + 15*4) / 12 = 100 / 12
    c.stars(8, 0, 0, 3, 1, 0, 5, 0, 1, 4);
    Check.due("one dot", c.eye.dots(0, 0, 0), 1);
    Check.due("x", c.eye.dot(0, 0, 0, 0), 9);
    Check.due("y", c.eye.dot(0, 0, 1, 0), 8);
    Check.due("light", c.eye.dot(0, 0, 2, 0), 12);
    Check.due("neither", c.eye.dot(0, 0, 3, 0), 0);
    Check.due("pixels", c.eye.dot(0, 0, 4, 0), 3);
    // corners do not hang together
    c.stars(8, 6, 6, 9, 7, 7, 9);
    Check.due("two dots", c.eye.dots(1, 0, 0), 2);
    Check.due("x of the last pixel", c.eye.dot(1, 1, 0, 0), 75);
    // a ring hangs together around its hole
    c.stars(8, 2, 2, 4, 3, 2, 4, 4, 2, 4, 2, 3, 4, 4, 3, 4, 2, 4, 4, 3, 4, 4, 4, 4, 4);
    Check.due("a ring", c.eye.dots(2, 0, 0), 1);
    Check.due("its pixels", c.eye.dot(2, 0, 4, 0), 8);
    Check.due("its middle", c.eye.dot(2, 0, 0, 0), 35);
    // the end of a row does not hang on the beginning of the next
    c.stars(8, 7, 2, 9, 0, 3, 9);
    Check.due("rows end", c.eye.dots(3, 0, 0), 2);
  }

  private static void orderOfDots() {
    Check c = new Check();
    c.book("eye wide 16 unit 1 far 1;");
    c.stars(16, 9, 9, 5, 3, 9, 5, 5, 2, 5, 0, 15, 9, 12, 12, 3, 13, 12, 3);
    int[][] due = {{5, 155, 9}, {130, 125, 6}, {55, 25, 5}, {35, 95, 5}, {95, 95, 5}};
    for (int i = 0; i < 5; i++) {
      for (int what = 0; what < 3; what++) Check.due("dot " + i + " " + what, c.eye.dot(0, i, what, 0), due[i][what]);
    }
    // 24 = 8 * 3 = 3 * 8: of like LIGHT the upper one is ahead
    c.stars(16, 5, 5, 3, 6, 5, 3, 7, 5, 3, 5, 6, 3, 7, 6, 3, 5, 7, 3, 6, 7, 3, 7, 7, 3, 0, 0, 8, 0, 1, 8, 0, 2, 8);
    Check.due("like light, the upper first", c.eye.dot(1, 0, 1, 0), 15);
    Check.due("like light, the lower behind", c.eye.dot(1, 1, 1, 0), 65);
    Check.due("like light", c.eye.dot(1, 0, 2, 0), c.eye.dot(1, 1, 2, 0));
    c.book("noise 0;eye wide 6 unit 1 far 1;");
    // LIGHT 20 and MIDDLE (30, 30) both: the ring's first PIXEL comes first
    c.picture("111111;100001;105501;105501;100001;111111;");
    Check.due("the ring first", c.eye.dot(0, 0, 4, 0), 20);
    Check.due("what is within behind it", c.eye.dot(0, 1, 4, 0), 4);
    for (int what = 0; what < 3; what++) Check.due("alike in " + what, c.eye.dot(0, 1, what, 0), c.eye.dot(0, 0, what, 0));
    Check.due("the ring is a SMEAR", c.eye.dot(0, 0, 3, 0), 1);
    Check.due("what is within is none", c.eye.dot(0, 1, 3, 0), 0);
    Check.due("the POINT", c.eye.point(0, 0, 0), 1);
  }

  private static void noise() {
    Check c = new Check();
    c.book("noise 0;");
    c.stars(8, 0, 0, 1, 1, 0, 1);
    Check.due("noise 0", c.eye.dots(0, 0, 0), 1);
    Check.due("all light counts", c.eye.dot(0, 0, 2, 0), 2);
    c.book("noise 9;");
    c.stars(8, 0, 0, 9, 1, 0, 9);
    Check.due("noise 9", c.eye.dots(0, 0, 0), 0);
    c.book("noise 4;");
    c.stars(8, 0, 0, 4, 1, 0, 5, 2, 0, 4, 3, 0, 6);
    Check.due("noise 4", c.eye.dots(0, 0, 0), 2);
    Check.due("the first", c.eye.dot(0, 0, 2, 0), 6);
    c.book("");
    c.stars(8, 0, 0, 2, 1, 0, 3);
    Check.due("noise 2 if it is not told", c.eye.dot(0, 0, 2, 0), 3);
  }

  private static void smears() {
    Check c = new Check();
    c.stars(8, 0, 0, 9, 1, 0, 9, 2, 0, 9);
    Check.due("3 columns", c.eye.dots(0, 1, 0), 0);
    c.stars(8, 0, 0, 9, 1, 0, 9, 2, 0, 9, 3, 0, 9);
    Check.due("4 columns", c.eye.dots(1, 1, 0), 1);
    c.stars(8, 5, 2, 9, 5, 3, 9, 5, 4, 9);
    Check.due("3 rows", c.eye.dots(2, 1, 0), 0);
    c.stars(8, 5, 2, 9, 5, 3, 9, 5, 4, 9, 5, 5, 9);
    Check.due("4 rows", c.eye.dots(3, 1, 0), 1);
    // 4 pixels that hang together as steps reach over 3 columns and 2 rows
    c.stars(8, 0, 0, 9, 1, 0, 9, 1, 1, 9, 2, 1, 9, 2, 2, 9);
    Check.due("steps", c.eye.dots(4, 1, 0), 0);
    c.stars(8, 0, 0, 9, 1, 0, 9, 1, 1, 9, 2, 1, 9, 2, 2, 9, 3, 2, 9);
    Check.due("more steps", c.eye.dots(5, 1, 0), 1);
    Check.due("no POINT", c.eye.dots(5, 3, 0), 0);
    Check.due("dot 3", c.eye.dot(5, 0, 3, 0), 1);
  }

  private static void specks() {
    Check c = new Check();
    c.stars(8, 3, 3, 9, 6, 6, 4);
    c.stars(8, 3, 3, 5, 0, 6, 4);
    Check.due("two pictures make none", c.eye.dots(0, 2, 0), 0);
    c.eye.later(1);
    // the MIDDLE lies in (3, 3): (25*3 + 35*9) / 12 = 32
    c.stars(8, 2, 3, 3, 3, 3, 9, 6, 1, 9);
    for (int p = 0; p < 3; p++) Check.due("a speck in " + p, c.eye.dots(p, 2, 1), 1);
    Check.due("none as known at 0", c.eye.dots(0, 2, 0), 0);
    Check.due("dot 3", c.eye.dot(2, 0, 3, 1), 2);
    Check.due("dot 3 as known at 0", c.eye.dot(0, 0, 3, 0), 0);
    Check.due("the POINT", c.eye.point(2, 0, 1), 1);
    Check.due("POINTS", c.eye.dots(2, 3, 1), 1);
    Check.due("no speck", c.eye.speckless(3, 3, true), true);
    Check.due("none now", c.eye.dots(0, 2, 1), 0);
    Check.due("whenever", c.eye.point(2, 0, 1), 0);
    Check.due("may be one", c.eye.speckless(3, 3, false), true);
    Check.due("one again", c.eye.dots(0, 2, 1), 1);
    c.eye.later(1);
    c.eye.untell(1);
    Check.due("two count", c.eye.dots(0, 2, 2), 0);
    Check.due("three counted", c.eye.dots(0, 2, 1), 1);
    // a SMEAR whose MIDDLE lies there is a DOT there, but no SPECK
    c.stars(8, 1, 3, 9, 2, 3, 9, 3, 3, 9, 4, 3, 9, 5, 3, 9);
    Check.due("a smear's middle", c.eye.dots(0, 2, 2), 1);
    Check.due("a smear", c.eye.dot(3, 0, 3, 2), 1);
    Check.due("no speck there", c.eye.dots(3, 2, 2), 0);
    c.stars(8, 4, 3, 9);
    Check.due("not in each", c.eye.dots(0, 2, 2), 0);
  }

  private static void specksInCorners() {
    Check c = new Check();
    for (int i = 0; i < 3; i++) c.stars(8, 0, 0, 9, 7, 0, 8, 0, 7, 7, 7, 7, 6);
    Check.due("four corners", c.eye.dots(1, 2, 0), 4);
    c.eye.speckless(7, 0, true);
    Check.due("but one", c.eye.dots(1, 2, 0), 3);
    Check.due("which is a POINT", c.eye.point(1, 0, 0), 1);
    c.book("eye wide 16 unit 1 far 1;");
    for (int i = 0; i < 3; i++) c.stars(16, 15, 15, 9, 15, 0, 8, 0, 15, 7);
    Check.due("16 wide", c.eye.dots(2, 2, 0), 3);
    c.eye.speckless(15, 15, true);
    Check.due("but the last", c.eye.dot(2, 0, 3, 0), 0);
  }

  private static void atMostTwelveDots() {
    Check c = new Check();
    c.book("eye wide 16 unit 1 far 1;noise 0;");
    StringBuilder rows = new StringBuilder();
    for (int y = 0; y < 16; y++) {
      for (int x = 0; x < 16; x++) rows.append((x + y) % 2 == 0 ? 1 + (x == 14 && y == 14 ? 1 : 0) : 0);
      rows.append(';');
    }
    c.picture(rows.toString());
    Check.due("of 128", c.eye.dots(0, 0, 0), 12);
    Check.due("the brightest", c.eye.dot(0, 0, 0, 0), 145);
    Check.due("the next", c.eye.dot(0, 1, 0, 0), 5);
    Check.due("the 9th of the first row is the first of the second", c.eye.dot(0, 9, 0, 0), 15);
    Check.due("the last x", c.eye.dot(0, 11, 0, 0), 55);
    Check.due("the last y", c.eye.dot(0, 11, 1, 0), 15);
    Check.due("a 13th", c.eye.dot(0, 12, 0, 0), -1);
    Check.due("points", c.eye.dots(0, 3, 0), 12);
    Check.due("point 11", c.eye.point(0, 11, 0), 11);
    Check.due("point 12", c.eye.point(0, 12, 0), -1);
  }

  private static void wrongInputs() {
    Check c = new Check();
    c.stars(8, 1, 1, 9);
    Check.due("dots of 1", c.eye.dots(1, 0, 0), -1);
    Check.due("dots of -1", c.eye.dots(-1, 0, 0), -1);
    Check.due("dots what 4", c.eye.dots(0, 4, 0), -1);
    Check.due("dots what -1", c.eye.dots(0, -1, 0), -1);
    Check.due("dots at -1", c.eye.dots(0, 0, -1), -1);
    Check.due("dot 1", c.eye.dot(0, 1, 0, 0), -1);
    Check.due("dot -1", c.eye.dot(0, -1, 0, 0), -1);
    Check.due("dot what 5", c.eye.dot(0, 0, 5, 0), -1);
    Check.due("dot what -1", c.eye.dot(0, 0, -1, 0), -1);
    Check.due("dot at -1", c.eye.dot(0, 0, 0, -1), -1);
    Check.due("dot of MAX", c.eye.dot(Integer.MAX_VALUE, 0, 0, 0), -1);
    Check.due("point 0", c.eye.point(0, 0, 0), 0);
    Check.due("point 1", c.eye.point(0, 1, 0), -1);
    Check.due("point -1", c.eye.point(0, -1, 0), -1);
    Check.due("point at -1", c.eye.point(0, 0, -1), -1);
    Check.due("point of 1", c.eye.point(1, 0, 0), -1);
  }
}
