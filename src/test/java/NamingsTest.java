/** Promises 14 to 21 and 24: LENGTH, NAMINGS, ODDS, TOLD, TURN, LOOK, STRETCH, WANDERERS. */
final class NamingsTest {
  private static final long GAP = StarEye.GAP;
  private static final String EYE = "eye wide 16 unit 5 far 100;";
  private static final String TRIANGLE = "star a at 100 100 light 1;star b at 140 100 light 1;star c at 100 130 light 1;";
  private static final String SQUARE =
      "star a at 100 100 light 1;star b at 140 100 light 1;star c at 140 140 light 1;star d at 100 140 light 1;";

  public static void main(String[] args) {
    lengths();
    fits();
    sides();
    inOneLine();
    squareTurned();
    mostPointsWin();
    firstSixPoints();
    starsOfTheirOwn();
    odds();
    told();
    turnLookStretch();
    leaning();
    manyNamings();
    namingsAsKnown();
    wrongInputs();
    Check.finish("NamingsTest");
  }

  private static void lengths() {
    Check c = new Check();
    c.book("lean 99 -99;star a at 0 0 light 1;star b at 999 999 light 1;star c at 14 15 light 1;");
    Check.due("0 1", c.eye.length(0, 1), 14127);
    Check.due("1 0", c.eye.length(1, 0), 14127);
    Check.due("0 2", c.eye.length(0, 2), 205);
    Check.due("to itself", c.eye.length(2, 2), 0);
    Check.due("none", c.eye.length(0, 3), -1);
    Check.due("none", c.eye.length(3, 0), -1);
    Check.due("-1", c.eye.length(-1, 0), -1);
    Check.due("MAX", c.eye.length(0, Integer.MAX_VALUE), -1);
    Check.due("MIN", c.eye.length(Integer.MIN_VALUE, Integer.MIN_VALUE), -1);
  }

  private static Check with(String book, int... pixels) {
    Check c = new Check();
    c.book(EYE + book);
    c.stars(16, pixels);
    return c;
  }

  private static void fits() {
    int[] seen = {2, 2, 9, 10, 2, 8, 2, 8, 7};
    Check.due("off 0", with("off 0;" + TRIANGLE, seen).eye.namings(0, 0, 0), 1);
    String wider = "star a at 100 100 light 1;star b at 141 100 light 1;star c at 100 130 light 1;";
    Check.due("10 too long, off 0", with("off 0;" + wider, seen).eye.namings(0, 0, 0), 0);
    Check.due("10 too long, off 1", with("off 1;" + wider, seen).eye.namings(0, 0, 0), 1);
    String narrower = "star a at 100 100 light 1;star b at 138 100 light 1;star c at 100 130 light 1;";
    Check.due("20 too short, off 1", with("off 1;" + narrower, seen).eye.namings(0, 0, 0), 0);
    Check.due("20 too short, off 2", with(narrower, seen).eye.namings(0, 0, 0), 1);
    Check.due("two points", with(TRIANGLE, 2, 2, 9, 10, 2, 8).eye.namings(0, 0, 0), 0);
    Check.due("two points name none", with(TRIANGLE, 2, 2, 9, 10, 2, 8).eye.namings(0, 1, 0), 0);
    Check.due("no stars", with("", seen).eye.namings(0, 0, 0), 0);
    Check.due("nothing seen", with(TRIANGLE).eye.namings(0, 0, 0), 0);
  }

  private static void sides() {
    // the same lengths, seen in a mirror
    Check c = with("off 5;" + TRIANGLE, 10, 2, 9, 2, 2, 8, 10, 8, 7);
    Check.due("mirrored", c.eye.namings(0, 0, 0), 0);
    // turned by half
    c = with("off 0;" + TRIANGLE, 10, 8, 9, 2, 8, 8, 10, 2, 7);
    Check.due("turned", c.eye.namings(0, 0, 0), 1);
    Check.due("C", c.eye.turn(0, 0, 0, 0), -1);
    Check.due("S", c.eye.turn(0, 0, 1, 0), 0);
  }

  private static void inOneLine() {
    String eye = "eye wide 16 unit 9 far 9;off 2;star a at 100 100 light 1;star b at 136 100 light 1;";
    Check c = new Check();
    c.book(eye + "star c at 190 100 light 1;");
    c.stars(16, 1, 3, 9, 5, 3, 8, 11, 3, 7);
    Check.due("in one line", c.eye.namings(0, 0, 0), 1);
    c.book(eye + "star c at 190 101 light 1;");
    c.stars(16, 1, 3, 9, 5, 3, 8, 11, 3, 7);
    Check.due("only the points are", c.eye.namings(0, 0, 0), 0);
    c.book(eye + "star c at 190 109 light 1;");
    c.stars(16, 1, 3, 9, 5, 3, 8, 11, 4, 7);
    Check.due("both are not", c.eye.namings(0, 0, 0), 1);
  }

  private static void squareTurned() {
    Check c = with("off 0;" + SQUARE, 2, 2, 9, 10, 2, 8, 10, 10, 7, 2, 10, 6);
    Check.due("namings", c.eye.namings(0, 0, 0), 4);
    Check.due("named", c.eye.namings(0, 1, 0), 4);
    long[][] turns = {{1, 0}, {0, 1}, {-1, 0}, {0, -1}};
    for (int i = 0; i < 4; i++) {
      for (int point = 0; point < 4; point++) Check.due("named " + i + " " + point, c.eye.named(0, i, point, 0), (i + point) % 4);
      Check.due("named " + i + " 4", c.eye.named(0, i, 4, 0), -1);
      Check.due("C " + i, c.eye.turn(0, i, 0, 0), turns[i][0]);
      Check.due("S " + i, c.eye.turn(0, i, 1, 0), turns[i][1]);
      Check.due("stretch " + i, c.eye.stretch(0, i, 0), 1000);
      Check.due("upper odds " + i, c.eye.odds(0, i, 0, 0), 8);
      Check.due("lower odds " + i, c.eye.odds(0, i, 1, 0), 27);
    }
    // the eye's middle lies (75, 75) behind the points' mean, which is turned around the stars' mean (1200, 1200)
    long[][] looks = {{1275, 1275}, {1125, 1275}, {1125, 1125}, {1275, 1125}};
    for (int i = 0; i < 4; i++) {
      for (int what = 0; what < 2; what++) {
        Check.due("look " + i + " " + what, c.eye.look(0, i, what, 0, 0), looks[i][what]);
        Check.due("look by " + i + " " + what, c.eye.look(0, i, what, 1, 0), 1);
      }
    }
    Check.due("told", c.eye.told(0, 0), 0);
  }

  private static void mostPointsWin() {
    // three of the square's points and a stray one that is the brightest
    Check c = with("off 0;" + SQUARE, 15, 15, 9, 2, 2, 8, 10, 2, 7, 10, 10, 6);
    Check.due("namings", c.eye.namings(0, 0, 0), 4);
    Check.due("named", c.eye.namings(0, 1, 0), 3);
    Check.due("the stray one", c.eye.named(0, 0, 0, 0), -1);
    Check.due("POINT 1", c.eye.named(0, 0, 1, 0), 0);
    Check.due("POINT 3", c.eye.named(0, 0, 3, 0), 2);
    Check.due("the last", c.eye.named(0, 3, 1, 0), 3);
    Check.due("wanderers", c.eye.wanderers(0, 0), 1);
    // two strays in between: the order goes by POINTS
    c = with("off 0;" + TRIANGLE, 2, 2, 9, 15, 1, 8, 10, 2, 7, 13, 15, 6, 2, 8, 5);
    Check.due("wanderers", c.eye.wanderers(0, 0), 2 + 8);
    Check.due("POINT 2", c.eye.named(0, 0, 2, 0), 1);
    Check.due("POINT 4", c.eye.named(0, 0, 4, 0), 2);
    // two triangles share no naming: none is behind all STARS
    c = with("off 0;" + TRIANGLE, 8, 8, 9, 0, 0, 8, 8, 0, 7, 0, 6, 6, 15, 15, 5);
    Check.due("only one", c.eye.namings(0, 0, 0), 1);
    Check.due("wanderers", c.eye.wanderers(0, 0), 1 + 16);
    Check.due("all but none", with(SQUARE, 2, 2, 9, 3, 12, 8).eye.wanderers(0, 0), -1);
  }

  private static void firstSixPoints() {
    // the triangle's third point is the 7th, then the 6th
    int[] seen = {2, 2, 9, 10, 2, 8, 4, 4, 7, 5, 6, 6, 12, 12, 5, 13, 7, 4, 2, 8, 3};
    Check c = with("off 0;" + TRIANGLE, seen);
    Check.due("points", c.eye.dots(0, 3, 0), 7);
    Check.due("the 7th does not count", c.eye.namings(0, 0, 0), 0);
    seen[14] = 3;
    seen[20] = 5;
    c = with("off 0;" + TRIANGLE, seen);
    Check.due("the 5th", c.eye.namings(0, 0, 0), 1);
    Check.due("named 4", c.eye.named(0, 0, 4, 0), 2);
    Check.due("named 6", c.eye.named(0, 0, 6, 0), -1);
    Check.due("wanderers among six", c.eye.wanderers(0, 0), 4 + 8 + 32);
  }

  private static void starsOfTheirOwn() {
    // two points 10 apart fit a star and itself by their length, but no two stars
    Check c = with("off 5;" + TRIANGLE, 2, 2, 9, 10, 2, 8, 2, 4, 7, 2, 8, 6);
    Check.due("named", c.eye.namings(0, 1, 0), 3);
    Check.due("namings", c.eye.namings(0, 0, 0), 1);
    Check.due("wanderers", c.eye.wanderers(0, 0), 4);
  }

  private static void odds() {
    // 10 pairs; 400 fits a-b and d-e, 500 fits b-c alone
    String book = "off 0;" + TRIANGLE + "star d at 500 500 light 1;star e at 540 500 light 1;";
    Check c = with(book, 2, 2, 9, 10, 2, 8, 2, 8, 7);
    Check.due("upper", c.eye.odds(0, 0, 0, 0), 1);
    Check.due("lower", c.eye.odds(0, 0, 1, 0), 50);
    // another order of the points: 500 and 300
    c = with(book, 2, 2, 7, 10, 2, 9, 2, 8, 8);
    Check.due("lower", c.eye.odds(0, 0, 1, 0), 100);
    // the two pairs that are named one behind the other, a stray one between them
    c = with(book, 2, 2, 9, 15, 15, 8, 10, 2, 7, 2, 8, 6);
    Check.due("upper with a stray one", c.eye.odds(0, 0, 0, 0), 1);
    Check.due("lower with a stray one", c.eye.odds(0, 0, 1, 0), 50);
    Check.due("part 2", c.eye.odds(0, 0, 2, 0), GAP);
    Check.due("part -1", c.eye.odds(0, 0, -1, 0), GAP);
    Check.due("naming 1", c.eye.odds(0, 1, 0, 0), GAP);
  }

  private static void told() {
    int[] seen = {2, 2, 9, 10, 2, 8, 2, 8, 7};
    String five = TRIANGLE + "star d at 500 500 light 1;star e at 560 500 light 1;";
    Check.due("bar 100 of 1/100", with("off 0;" + five, seen).eye.told(0, 0), 1);
    Check.due("bar 101 of 1/100", with("off 0;bar 101;" + five, seen).eye.told(0, 0), 0);
    Check.due("bar 9 of 1/9", with("off 0;bar 9;" + TRIANGLE, seen).eye.told(0, 0), 1);
    Check.due("bar 10 of 1/9", with("off 0;bar 10;" + TRIANGLE, seen).eye.told(0, 0), 0);
    Check.due("no naming", with("off 0;" + five, 2, 2, 9).eye.told(0, 0), 0);
    // 12 stars, ODDS of 1/99: too much for a bar of 100, which is that of a BOOK without one
    String twelve = "star xa at 400 400 light 1;star xb at 400 380 light 1;star xc at 424 348 light 1;star xd at 424 328 light 1;"
        + "star xe at 408 316 light 1;star xf at 392 304 light 1;star xg at 372 304 light 1;star xh at 360 288 light 1;"
        + "star xi at 388 364 light 1;star xj at 404 352 light 1;star xk at 392 336 light 1;star xl at 376 348 light 1;";
    int[] bars = {1, 1, 99, 1, 100, 0, 9999, 0};
    for (int i = -1; i < 4; i++) {
      Check c = new Check();
      c.book("eye wide 16 unit 4 far 9;off 0;" + (i < 0 ? "" : "bar " + bars[2 * i] + ";") + twelve);
      c.stars(16, 6, 13, 9, 0, 0, 8, 3, 4, 7);
      Check.due("1 by", c.eye.odds(0, 0, 0, 0), 1);
      Check.due("99", c.eye.odds(0, 0, 1, 0), 99);
      Check.due("told by bar " + i, c.eye.told(0, 0), i < 0 ? 0 : bars[2 * i + 1]);
    }
    Check.due("four namings", with("off 0;bar 1;" + SQUARE, 2, 2, 9, 10, 2, 8, 10, 10, 7).eye.told(0, 0), 0);
  }

  private static void turnLookStretch() {
    // worked out by hand: A 1500000, C 1542000, S -3000
    Check c = with("star a at 100 100 light 1;star b at 141 100 light 1;star c at 100 131 light 1;", 2, 2, 9, 10, 2, 8, 2, 8, 7);
    Check.due("C", c.eye.turn(0, 0, 0, 0), 514);
    Check.due("S", c.eye.turn(0, 0, 1, 0), -1);
    Check.due("stretch", c.eye.stretch(0, 0, 0), 1028);
    Check.due("x", c.eye.look(0, 0, 0, 0, 0), 25653);
    Check.due("x by", c.eye.look(0, 0, 0, 1, 0), 20);
    Check.due("y", c.eye.look(0, 0, 1, 0, 0), 25659);
    Check.due("y by", c.eye.look(0, 0, 1, 1, 0), 20);
  }

  private static void leaning() {
    Check c = with("off 0;lean 7 -99;star a at 0 60 light 1;star b at 40 60 light 1;star c at 0 90 light 1;", 2, 2, 9, 10, 2, 8, 2, 8, 7);
    // (275, 275) behind a, which lies at (70, -390)
    Check.due("x", c.eye.look(0, 0, 0, 0, 0), 345);
    Check.due("y, below 0", c.eye.look(0, 0, 1, 0, 0), -115);
    Check.due("y by", c.eye.look(0, 0, 1, 1, 0), 1);
    c = with("off 0;lean 0 0;star a at 0 60 light 1;star b at 40 60 light 1;star c at 0 90 light 1;", 9, 2, 9, 9, 10, 8, 3, 2, 7);
    // turned by a quarter: POINT a at (475, 125); (400, 400) less that is (-75, 275), which turns to (275, 75)
    Check.due("S", c.eye.turn(0, 0, 1, 0), -1);
    Check.due("x", c.eye.look(0, 0, 0, 0, 0), 275);
    Check.due("y", c.eye.look(0, 0, 1, 0, 0), 675);
  }

  private static void manyNamings() {
    // 32 stars on a grid 20 apart and a wide off: more than 200 namings by three points
    StringBuilder book = new StringBuilder("eye wide 16 unit 4 far 9;off 5;");
    for (int i = 0; i < 32; i++) {
      book.append("star x").append((char) ('a' + i % 8)).append((char) ('a' + i / 8)).append(" at ").append(20 * (i % 5)).append(' ');
      book.append(20 * (i / 5)).append(" light 1;");
    }
    Check c = new Check();
    Check.due("stars", c.book(book.toString()), 32);
    c.stars(16, 8, 13, 9, 3, 10, 8, 8, 7, 7);
    Check.due("the first 200 count", c.eye.namings(0, 0, 0), 200);
    Check.due("the 200th is one", c.eye.named(0, 199, 0, 0) >= 0, true);
    Check.due("the 201st is none", c.eye.named(0, 200, 0, 0), -1);
    Check.due("turn of the 201st", c.eye.turn(0, 200, 0, 0), GAP);
    int before = -1;
    for (int i = 75; i < 200; i++) {
      int names = (c.eye.named(0, i, 0, 0) * 32 + c.eye.named(0, i, 1, 0)) * 32 + c.eye.named(0, i, 2, 0);
      Check.due("order at " + i, names > before, true);
      before = names;
    }
  }

  private static void namingsAsKnown() {
    Check c = with("off 0;" + TRIANGLE, 2, 2, 9, 10, 2, 8, 2, 8, 7);
    c.stars(16, 2, 2, 9);
    c.eye.later(3);
    c.stars(16, 2, 2, 9);
    Check.due("two pictures", c.eye.namings(0, 0, 2), 1);
    Check.due("a speck is no POINT", c.eye.namings(0, 0, 3), 0);
    Check.due("known before", c.eye.named(0, 0, 2, 2), 2);
    Check.due("told before", c.eye.told(0, 2), 0);
    c.eye.speckless(2, 2, true);
    Check.due("no speck", c.eye.namings(0, 0, 3), 1);
    c.eye.speckless(2, 2, false);
    c.eye.later(1);
    c.eye.untell(1);
    Check.due("two count", c.eye.namings(0, 1, 4), 3);
    Check.due("three counted", c.eye.namings(0, 1, 3), 0);
  }

  private static void wrongInputs() {
    Check c = with("off 0;" + TRIANGLE, 2, 2, 9, 10, 2, 8, 2, 8, 7);
    StarEye e = c.eye;
    int[] none = {-1, 1, 12, Integer.MAX_VALUE, Integer.MIN_VALUE};
    for (int bad : none) {
      Check.due("namings of " + bad, e.namings(bad, 0, 0), -1);
      Check.due("named of " + bad, e.named(bad, 0, 0, 0), -1);
      Check.due("named by " + bad, e.named(0, bad, 0, 0), -1);
      Check.due("odds of " + bad, e.odds(bad, 0, 0, 0), GAP);
      Check.due("odds by " + bad, e.odds(0, bad, 0, 0), GAP);
      Check.due("told of " + bad, e.told(bad, 0), -1);
      Check.due("turn of " + bad, e.turn(bad, 0, 0, 0), GAP);
      Check.due("turn by " + bad, e.turn(0, bad, 0, 0), GAP);
      Check.due("look of " + bad, e.look(bad, 0, 0, 0, 0), GAP);
      Check.due("look by " + bad, e.look(0, bad, 0, 0, 0), GAP);
      Check.due("stretch of " + bad, e.stretch(bad, 0, 0), GAP);
      Check.due("stretch by " + bad, e.stretch(0, bad, 0), GAP);
      Check.due("wanderers of " + bad, e.wanderers(bad, 0), -1);
    }
    for (int bad : new int[] {-1, 2, Integer.MAX_VALUE, Integer.MIN_VALUE}) {
      Check.due("namings what " + bad, e.namings(0, bad, 0), -1);
      Check.due("odds part " + bad, e.odds(0, 0, bad, 0), GAP);
      Check.due("turn what " + bad, e.turn(0, 0, bad, 0), GAP);
      Check.due("look what " + bad, e.look(0, 0, bad, 0, 0), GAP);
      Check.due("look part " + bad, e.look(0, 0, 0, bad, 0), GAP);
    }
    for (int bad : new int[] {-1, 3, 5, 6, 63, Integer.MAX_VALUE, Integer.MIN_VALUE}) Check.due("named POINT " + bad, e.named(0, 0, bad, 0), -1);
    Check.due("not known yet", e.namings(0, 0, -1), -1);
    Check.due("not known yet", e.told(0, -1), -1);
    Check.due("not known yet", e.turn(0, 0, 0, -1), GAP);
    Check.due("not known yet", e.stretch(0, 0, -1), GAP);
    Check.due("not known yet", e.look(0, 0, 0, 0, -1), GAP);
    Check.due("not known yet", e.odds(0, 0, 0, -1), GAP);
    Check.due("not known yet", e.named(0, 0, 0, -1), -1);
    Check.due("not known yet", e.wanderers(0, -1), -1);
  }
}
