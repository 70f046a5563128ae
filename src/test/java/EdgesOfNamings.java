import java.math.BigInteger;
import java.util.ArrayList;
import java.util.List;

/** Terms 3: LENGTHS, what FITS, NAMINGS, ODDS, TOLD, TURN, LOOK and STRETCH. */
final class EdgesOfNamings {
  private static final String HERE = "Terms 3";
  private static final String EYE = "eye wide 16 unit 5 far 9;";
  /** POINTS 400, 300 and 500 apart by unit 5. */
  private static final int[] TRIANGLE = {2, 2, 9, 10, 2, 8, 2, 8, 7};

  static void run() {
    places();
    lengths();
    fits();
    firstSix();
    pointsAsKnown();
    threeAtLeast();
    ofItsOwn();
    eachTwo();
    sides();
    asMany();
    order();
    twoHundred();
    odds();
    told();
    turns();
    looks();
    stretches();
  }

  private static void of(String sentence) {
    Edge.of(HERE, sentence);
  }

  private static String sky(int... places) {
    return EdgesOfBook.sky(places);
  }

  private static Check seen(String book, int... pixels) {
    return Edge.seen(book, 16, pixels);
  }

  private static void places() {
    of("All in tenths of the BOOK's units: a DOT lies at MIDDLE * unit; a STAR at 10 * at, and 10 * lean.");
    for (int unit = 2; unit <= 9; unit++) {
      Check c = seen("eye wide 16 unit " + unit + " far 9;off 0;" + sky(50, 50, 50 + 12 * unit, 50, 50, 50 + 11 * unit), 1, 1, 9, 13, 1, 8, 1, 12, 7);
      Edge.due("unit " + unit, c.eye.stretch(0, 0, 0), 1000);
      // the middle lies 65 PIXELS' tenths from POINT 0
      Edge.due("LOOK by unit " + unit, c.eye.look(0, 0, 0, 0, 0), 500 + 65 * unit);
    }
    for (int lean : new int[] {-99, -1, 0, 1, 99}) {
      Check c = seen(EYE + "off 0;lean " + lean + " " + -lean + ";" + sky(100, 100, 140, 100, 100, 130), TRIANGLE);
      Edge.due("NAMINGS by lean " + lean, c.eye.namings(0, 0, 0), 1);
      Edge.due("x by lean " + lean, c.eye.look(0, 0, 0, 0, 0), 1275 + 10 * lean);
      Edge.due("y by lean " + lean, c.eye.look(0, 0, 1, 0, 0), 1275 - 10 * lean);
      Edge.due("LENGTH by lean " + lean, c.eye.length(0, 1), 400);
    }
  }

  private static void lengths() {
    of("LENGTH of two: the greatest whole number whose square is no more than that of their distance.");
    // 201 * 201 is 40401, one more than the square of the distance to (20, 2)
    int[][] due = {{20, 0, 200}, {20, 1, 200}, {20, 2, 200}, {20, 3, 202}, {12, 16, 200}, {30, 40, 500}, {14, 15, 205}, {999, 0, 9990}, {999, 999, 14127},
        {0, 20, 200}, {40, 3, 401}, {41, 3, 411}, {36, 15, 390}, {34, 19, 389}};
    for (int[] one : due) {
      Check c = Edge.goodBook(sky(0, 0, one[0], one[1]), 2);
      Edge.due("to " + one[0] + ", " + one[1], c.eye.length(0, 1), one[2]);
      Edge.due("from " + one[0] + ", " + one[1], c.eye.length(1, 0), one[2]);
    }
    // as POINTS: 6 and 11 PIXELS of 40 tenths are 240, 440 and 501.1; the STARS' third LENGTH is 501.1, then 502
    Edge.due("501 and 501", seen("eye wide 16 unit 4 far 9;off 0;" + sky(100, 100, 124, 100, 100, 144), 1, 1, 9, 7, 1, 8, 1, 12, 7).eye.namings(0, 0, 0), 1);
    Edge.due("501 and 502", seen("eye wide 16 unit 4 far 9;off 0;" + sky(100, 100, 124, 101, 98, 144), 1, 1, 9, 7, 1, 8, 1, 12, 7).eye.namings(0, 0, 0), 0);
  }

  private static void fit(int off, int length, int bx, int by, int cx, int cy, int due) {
    Check c = seen(EYE + "off " + off + ";" + sky(100, 100, 100 + bx, 100 + by, 100 + cx, 100 + cy), TRIANGLE);
    Edge.due("LENGTH", c.eye.length(0, 1), length);
    Edge.due("300 by off " + off, Math.abs(c.eye.length(0, 2) - 300) <= 10 * off, true);
    Edge.due("500 by off " + off, Math.abs(c.eye.length(1, 2) - 500) <= 10 * off, true);
    Edge.due("400 and " + length + " by off " + off, c.eye.namings(0, 0, 0), due);
  }

  private static void fits() {
    of("Two POINTS FIT two STARS, if their LENGTHS differ by no more than 10 * off.");
    fit(0, 400, 40, 0, 0, 30, 1);
    fit(1, 390, 36, 15, -12, 28, 1);
    fit(1, 389, 34, 19, -15, 26, 0);
    fit(1, 410, 41, 0, 0, 30, 1);
    fit(1, 411, 41, 3, -1, 30, 0);
    fit(2, 380, 38, 0, 0, 30, 1);
    fit(2, 379, 36, 12, -9, 29, 0);
    fit(2, 420, 42, 0, 0, 30, 1);
    fit(2, 421, 42, 3, 0, 30, 0);
    fit(3, 370, 37, 0, 0, 30, 1);
    fit(3, 430, 43, 0, 0, 30, 1);
    fit(3, 431, 43, 3, 1, 30, 0);
    fit(4, 360, 36, 0, 0, 30, 1);
    fit(4, 359, 35, 8, -11, 28, 0);
    fit(4, 440, 44, 0, 0, 30, 1);
    fit(4, 441, 37, 24, -13, 27, 0);
    fit(5, 350, 21, 28, -27, 13, 1);
    fit(5, 349, 8, 34, -30, 1, 0);
    fit(5, 450, 45, 3, 3, 30, 1);
    fit(5, 451, 21, 40, -24, 18, 0);
    // off 0: 368 fits 368, not 367
    int[] points = {1, 1, 9, 7, 1, 8, 1, 8, 7};
    Edge.due("368 and 368", seen("eye wide 16 unit 4 far 9;off 0;" + sky(100, 100, 124, 100, 100, 128), points).eye.namings(0, 0, 0), 1);
    Edge.due("368 and 367", seen("eye wide 16 unit 4 far 9;off 0;" + sky(100, 100, 124, 101, 99, 128), points).eye.namings(0, 0, 0), 0);
  }

  private static void firstSix() {
    of("A NAMING of a PICTURE names some of its first 6 POINTS");
    int[] strays = {4, 4, 13, 6, 6, 13, 13, 12, 15, 15};
    for (int place = 2; place <= 7; place++) {
      // a and b are the first two, as many strays as there must be come ahead of c, the others behind it
      int[] pixels = new int[24];
      System.arraycopy(new int[] {2, 2, 9, 10, 2, 9, 2, 8, 5}, 0, pixels, 0, 9);
      for (int i = 0; i < 5; i++) {
        int light = i < place - 2 ? 8 : 3;
        System.arraycopy(new int[] {strays[2 * i], strays[2 * i + 1], light}, 0, pixels, 9 + 3 * i, 3);
      }
      Check c = seen(EYE + "off 0;" + sky(100, 100, 140, 100, 100, 130), pixels);
      Edge.due("POINTS", c.eye.dots(0, 3, 0), 8);
      Edge.due("the LIGHT of POINT " + place, c.eye.dot(0, c.eye.point(0, place, 0), 2, 0), 5);
      Edge.due("NAMINGS by POINT " + place, c.eye.namings(0, 0, 0), place < 6 ? 1 : 0);
      Edge.due("the STAR of POINT " + place, c.eye.named(0, 0, place, 0), place < 6 ? 2 : -1);
    }
  }

  /** POINTS that are SPECKS as known at k are not named then, and those behind them move up. */
  private static void pointsAsKnown() {
    Check c = seen(EYE + "off 0;" + sky(100, 100, 140, 100, 100, 130), 15, 15, 9, 2, 2, 8, 10, 2, 7, 2, 8, 6);
    c.stars(16, 15, 15, 9);
    c.eye.later(1);
    c.stars(16, 15, 15, 9);
    c.eye.later(1);
    for (int i = 0; i < 2; i++) {
      Edge.due("POINT 1 at 0", c.eye.named(0, 0, 1, 0), 0);
      Edge.due("WANDERERS at 0", c.eye.wanderers(0, 0), 1);
      Edge.due("POINT 1 at 1", c.eye.named(0, 0, 1, 1), 1);
      Edge.due("WANDERERS at 1", c.eye.wanderers(0, 1), 0);
    }
    c.eye.untell(1);
    c.eye.untell(2);
    for (int i = 0; i < 3; i++) c.stars(16, 2, 2, 9);
    for (int i = 0; i < 2; i++) {
      Edge.due("NAMINGS at 1", c.eye.namings(0, 0, 1), 1);
      Edge.due("NAMINGS at 2, where POINT 0 is a SPECK", c.eye.namings(0, 0, 2), 0);
      Edge.due("they name", c.eye.namings(0, 1, 2), 0);
      Edge.due("named", c.eye.named(0, 0, 0, 2), -1);
    }
    Edge.due("told to be no SPECK", c.eye.speckless(2, 2, true), true);
    Edge.due("NAMINGS again", c.eye.namings(0, 0, 2), 1);
    // two POINTS are left, then none
    Check few = seen(EYE + "off 0;" + sky(100, 100, 140, 100, 100, 130), TRIANGLE);
    Edge.due("they name", few.eye.namings(0, 1, 0), 3);
    few.eye.later(1);
    for (int i = 0; i < 2; i++) few.stars(16, 2, 2, 9);
    few.eye.later(1);
    few.eye.untell(1);
    few.eye.untell(2);
    for (int i = 0; i < 2; i++) few.stars(16, TRIANGLE);
    int[][] left = {{0, 3, 1, 3}, {1, 2, 0, 0}, {2, 0, 0, 0}};
    for (int turn = 0; turn < 2; turn++) {
      for (int[] one : left) {
        Edge.due("POINTS at " + one[0], few.eye.dots(0, 3, one[0]), one[1]);
        Edge.due("NAMINGS at " + one[0], few.eye.namings(0, 0, one[0]), one[2]);
        Edge.due("they name at " + one[0], few.eye.namings(0, 1, one[0]), one[3]);
      }
    }
    // the 7th POINT moves up behind a SPECK
    c = seen(EYE + "off 0;" + sky(100, 100, 140, 100, 100, 130), 2, 2, 9, 10, 2, 9, 4, 4, 8, 13, 6, 8, 6, 13, 8, 13, 12, 8, 2, 8, 5);
    Edge.due("as the 7th", c.eye.namings(0, 0, 0), 0);
    for (int i = 0; i < 2; i++) c.stars(16, 13, 12, 8);
    Edge.due("as the 6th", c.eye.namings(0, 0, 0), 1);
    Edge.due("its STAR", c.eye.named(0, 0, 5, 0), 2);
  }

  private static void threeAtLeast() {
    of("3 at least");
    String three = EYE + "off 0;" + sky(100, 100, 140, 100, 100, 130);
    Edge.due("3 POINTS", seen(three, TRIANGLE).eye.namings(0, 1, 0), 3);
    Edge.due("2 POINTS", seen(three, 2, 2, 9, 10, 2, 8).eye.namings(0, 0, 0), 0);
    Edge.due("2 POINTS name", seen(three, 2, 2, 9, 10, 2, 8).eye.namings(0, 1, 0), 0);
    Edge.due("1 POINT", seen(three, 2, 2, 9).eye.namings(0, 0, 0), 0);
    Edge.due("none", seen(three).eye.namings(0, 0, 0), 0);
    Edge.due("2 STARS", seen(EYE + "off 0;" + sky(100, 100, 140, 100), TRIANGLE).eye.namings(0, 0, 0), 0);
    Edge.due("no STARS", seen(EYE, TRIANGLE).eye.namings(0, 0, 0), 0);
    Edge.due("3 POINTS of which 2 FIT", seen(three, 2, 2, 9, 10, 2, 8, 3, 9, 7).eye.namings(0, 0, 0), 0);
    Edge.due("they name none", seen(three, 2, 2, 9, 10, 2, 8, 3, 9, 7).eye.namings(0, 1, 0), 0);
    Edge.due("6 POINTS of which 2 FIT", seen(three, 2, 2, 9, 10, 2, 8, 3, 9, 7, 15, 15, 6, 0, 15, 5, 13, 4, 4).eye.namings(0, 1, 0), 0);
    Edge.due("a third STAR", seen(EYE + "off 0;" + sky(100, 100, 140, 100, 500, 500, 100, 130), TRIANGLE).eye.named(0, 0, 2, 0), 3);
  }

  private static void ofItsOwn() {
    of("each by a STAR of its own");
    // POINTS 0 and 3 lie 42 tenths apart, no more than 10 * off: each of them may be STAR 0, but not both
    Check c = seen("eye wide 16 unit 3 far 9;off 5;" + sky(100, 100, 130, 100, 100, 136), 2, 2, 9, 12, 2, 8, 2, 14, 7, 3, 3, 6);
    Edge.due("NAMINGS", c.eye.namings(0, 0, 0), 2);
    Edge.due("POINTS they name", c.eye.namings(0, 1, 0), 3);
    int[][] due = {{0, 1, 2, -1}, {-1, 1, 2, 0}};
    for (int i = 0; i < 2; i++) {
      for (int point = 0; point < 4; point++) Edge.due("NAMING " + i + ", POINT " + point, c.eye.named(0, i, point, 0), due[i][point]);
    }
    // the same with POINTS 0 and 1 so near
    c = seen("eye wide 16 unit 3 far 9;off 5;" + sky(100, 100, 130, 100, 100, 136), 2, 2, 9, 12, 2, 7, 2, 14, 6, 3, 3, 8);
    Edge.due("NAMINGS", c.eye.namings(0, 0, 0), 2);
    int[][] near = {{0, -1, 1, 2}, {-1, 0, 1, 2}};
    for (int i = 0; i < 2; i++) {
      for (int point = 0; point < 4; point++) Edge.due("NAMING " + i + ", POINT " + point, c.eye.named(0, i, point, 0), near[i][point]);
    }
  }

  private static void eachTwo() {
    of("so that each two of them FIT");
    String book = EYE + "off 0;" + sky(100, 100, 140, 100, 100, 130);
    Edge.due("all three", seen(book, TRIANGLE).eye.namings(0, 0, 0), 1);
    Edge.due("0 and 1 do not", seen(book, 3, 2, 9, 10, 2, 8, 2, 8, 7).eye.namings(0, 0, 0), 0);
    // 400 and 300, but the third LENGTH is not 500
    Edge.due("1 and 2 do not", seen(book, 2, 5, 9, 10, 5, 8, 8, 5, 7).eye.namings(0, 0, 0), 0);
    // what FITS in one PICTURE is not kept for the next: its POINTS are 400, 350 and 531 apart
    Check twice = seen(book, TRIANGLE);
    Edge.due("the first PICTURE", twice.eye.namings(0, 0, 0), 1);
    twice.stars(16, 2, 2, 9, 10, 2, 8, 2, 9, 7);
    Edge.due("the second PICTURE", twice.eye.namings(1, 0, 0), 0);
    Edge.due("the first once more", twice.eye.namings(0, 0, 0), 1);
    // one of its POINTS after the other lies elsewhere, the two others FIT as before
    int[][] moved = {{3, 3, 9, 10, 2, 8, 2, 8, 7}, {2, 2, 9, 9, 3, 8, 2, 8, 7}, {2, 2, 9, 10, 2, 8, 3, 9, 7}};
    for (int[] pixels : moved) {
      twice = seen(book, TRIANGLE);
      Edge.due("the first PICTURE", twice.eye.namings(0, 0, 0), 1);
      twice.stars(16, pixels);
      Edge.due("the second PICTURE", twice.eye.namings(1, 0, 0), 0);
    }
    // four STARS, the fourth POINT FITS two of them but not the third
    String four = EYE + "off 0;" + sky(100, 100, 140, 100, 100, 130, 140, 130);
    Check c = seen(four, 2, 2, 9, 10, 2, 8, 2, 8, 7, 10, 8, 6);
    Edge.due("four", c.eye.namings(0, 1, 0), 4);
    c = seen(four, 2, 2, 9, 10, 2, 8, 2, 8, 7, 10, 9, 6);
    Edge.due("three of four", c.eye.namings(0, 1, 0), 3);
    Edge.due("the fourth is not named", c.eye.named(0, 0, 3, 0), -1);
  }

  private static void sides() {
    of("and each three lie as their STARS do (cross products of the same sign, or both 0).");
    String book = EYE + "off 5;" + sky(100, 100, 140, 100, 100, 130);
    Edge.due("alike", seen(book, TRIANGLE).eye.namings(0, 0, 0), 1);
    Edge.due("mirrored", seen(book, 10, 2, 9, 2, 2, 8, 10, 8, 7).eye.namings(0, 0, 0), 0);
    Edge.due("turned around", seen(book, 10, 8, 9, 2, 8, 8, 10, 2, 7).eye.namings(0, 0, 0), 1);
    // 36, 54 and 90 in one line by unit 9; then one of them a little aside
    String eye = "eye wide 16 unit 9 far 9;off 5;";
    int[] line = {1, 3, 9, 5, 3, 8, 11, 3, 7};
    int[] below = {1, 3, 9, 5, 3, 8, 11, 4, 7};
    int[] above = {1, 3, 9, 5, 3, 8, 11, 2, 7};
    int[][] due = {{100, 1, 0, 0}, {101, 0, 1, 0}, {99, 0, 0, 1}};
    for (int[] one : due) {
      String text = eye + sky(100, 100, 136, 100, 190, one[0]);
      Edge.due("POINTS in one line, y " + one[0], seen(text, line).eye.namings(0, 0, 0), one[1]);
      Edge.due("POINTS with one below, y " + one[0], seen(text, below).eye.namings(0, 0, 0), one[2]);
      Edge.due("POINTS with one above, y " + one[0], seen(text, above).eye.namings(0, 0, 0), one[3]);
    }
    // of four POINTS the three 0, 1 and 2 lie otherwise: they can't all be named
    String four = eye + sky(100, 100, 136, 100, 190, 101, 100, 172);
    Check c = seen(four, 1, 3, 9, 5, 3, 8, 11, 4, 7, 1, 11, 6);
    Edge.due("all four", c.eye.namings(0, 1, 0), 4);
    c = seen(four, 1, 3, 9, 5, 3, 8, 11, 3, 7, 1, 11, 6);
    Edge.due("but not if three are in one line", c.eye.namings(0, 1, 0), 3);
    Edge.due("then there are", c.eye.namings(0, 0, 0), 3);
  }

  private static void asMany() {
    of("NAMINGS: all that name as many as any does;");
    String square = EYE + "off 0;" + sky(100, 100, 140, 100, 140, 140, 100, 140);
    Check c = seen(square, 2, 2, 9, 10, 2, 8, 10, 10, 7, 2, 10, 6);
    Edge.due("by four", c.eye.namings(0, 0, 0), 4);
    Edge.due("POINTS", c.eye.namings(0, 1, 0), 4);
    c = seen(square, 2, 2, 9, 10, 2, 8, 10, 10, 7, 14, 14, 6);
    Edge.due("by three", c.eye.namings(0, 0, 0), 4);
    Edge.due("POINTS", c.eye.namings(0, 1, 0), 3);
    // six POINTS, all named
    int[] six = {100, 100, 150, 100, 150, 125, 110, 150, 165, 165, 135, 155};
    c = seen(EYE + "off 0;" + sky(six), 1, 1, 9, 11, 1, 8, 11, 6, 7, 3, 11, 6, 14, 14, 5, 8, 12, 4);
    Edge.due("six", c.eye.namings(0, 1, 0), 6);
    Edge.due("one NAMING", c.eye.namings(0, 0, 0), 1);
    c = seen(EYE + "off 0;" + sky(six), 1, 1, 9, 11, 1, 8, 11, 6, 7, 3, 11, 6, 14, 14, 5, 9, 13, 4);
    Edge.due("five", c.eye.namings(0, 1, 0), 5);
    Edge.due("POINT 5", c.eye.named(0, 0, 5, 0), -1);
  }

  private static void order() {
    of("in order of the names of POINT 0, 1, .. (none behind all STARS);");
    // POINTS 0, 2, 4 and 1, 3, 5 are triangles, as are STARS 0, 1, 2 and 3, 4, 5
    String book = EYE + "off 0;" + sky(500, 500, 540, 500, 500, 530, 100, 100, 140, 100, 100, 130);
    Check c = seen(book, 0, 0, 9, 8, 0, 7, 0, 6, 5, 3, 9, 8, 11, 9, 6, 3, 15, 4);
    int[][] due = {{0, -1, 1, -1, 2, -1}, {3, -1, 4, -1, 5, -1}, {-1, 0, -1, 1, -1, 2}, {-1, 3, -1, 4, -1, 5}};
    Edge.due("NAMINGS", c.eye.namings(0, 0, 0), 4);
    for (int i = 0; i < 4; i++) {
      for (int point = 0; point < 6; point++) Edge.due("NAMING " + i + ", POINT " + point, c.eye.named(0, i, point, 0), due[i][point]);
    }
    // the square's corners one behind the other: the first POINT's STAR goes up
    c = seen(EYE + "off 0;" + sky(100, 100, 140, 100, 140, 140, 100, 140), 2, 2, 9, 10, 2, 8, 10, 10, 7, 2, 10, 6);
    for (int i = 0; i < 4; i++) Edge.due("POINT 0 in NAMING " + i, c.eye.named(0, i, 0, 0), i);
  }

  private static void twoHundred() {
    of("the first 200 of them count.");
    int[][] more = {{518, 531, 511, 557, 530, 547, 547, 530}, {534, 510, 520, 535, 547, 532, 510, 509, 555, 507}, {528, 539, 507, 535, 516, 517, 506, 556}};
    for (int i = 0; i < 3; i++) {
      int[] places = new int[52 + more[i].length];
      for (int star = 0; star < 26; star++) {
        places[2 * star] = 20 * (star % 5);
        places[2 * star + 1] = 20 * (star / 5);
      }
      System.arraycopy(more[i], 0, places, 52, more[i].length);
      Check c = seen("eye wide 16 unit 4 far 9;off 5;" + sky(places), 1, 1, 9, 7, 1, 8, 4, 6, 7);
      List<int[]> all = allTriples(places, new int[] {240, 233, 233});
      Edge.due("as many as there should be", all.size(), 199 + i);
      Edge.due("NAMINGS of " + all.size(), c.eye.namings(0, 0, 0), Math.min(200, all.size()));
      for (int n = 0; n <= all.size(); n += n == 12 ? 83 : n == 105 ? 85 : 1) {
        for (int point = 0; point < 3; point++) {
          Edge.due("NAMING " + n + " of " + all.size(), c.eye.named(0, n, point, 0), n < Math.min(200, all.size()) ? all.get(n)[point] : -1);
        }
      }
    }
  }

  /** All three STARS that FIT three POINTS by off 5 and lie clockwise, as the POINTS do. */
  private static List<int[]> allTriples(int[] at, int[] lengths) {
    List<int[]> all = new ArrayList<>();
    int stars = at.length / 2;
    for (int a = 0; a < stars; a++) {
      for (int b = 0; b < stars; b++) {
        for (int c = 0; c < stars; c++) {
          if (a == b || a == c || b == c) continue;
          int cross = (at[2 * b] - at[2 * a]) * (at[2 * c + 1] - at[2 * a + 1]) - (at[2 * b + 1] - at[2 * a + 1]) * (at[2 * c] - at[2 * a]);
          boolean fit = Math.abs(Edge.length(at, a, b) - lengths[0]) <= 50 && Math.abs(Edge.length(at, a, c) - lengths[1]) <= 50
              && Math.abs(Edge.length(at, b, c) - lengths[2]) <= 50;
          if (fit && cross > 0) all.add(new int[] {a, b, c});
        }
      }
    }
    return all;
  }

  private static void odds() {
    of("ODDS of a NAMING: for each two POINTS that it names one behind the other: how many pairs of STARS FIT them, "
        + "by how many pairs of STARS there are, multiplied: a fraction.");
    // three STARS, each LENGTH of one pair: 1/9
    Check c = seen(EYE + "off 0;" + sky(100, 100, 140, 100, 100, 130), TRIANGLE);
    Edge.due("upper of three", c.eye.odds(0, 0, 0, 0), 1);
    Edge.due("lower of three", c.eye.odds(0, 0, 1, 0), 9);
    // of the square's six pairs four FIT each step: 64/216
    c = seen(EYE + "off 0;" + sky(100, 100, 140, 100, 140, 140, 100, 140), 2, 2, 9, 10, 2, 8, 10, 10, 7, 2, 10, 6);
    Edge.due("upper of the square", c.eye.odds(0, 3, 0, 0), 8);
    Edge.due("lower of the square", c.eye.odds(0, 3, 1, 0), 27);
    // 32 STARS, six of them named: five steps, each by 496
    int[] places = new int[64];
    System.arraycopy(new int[] {100, 100, 150, 100, 150, 125, 110, 150, 165, 165, 135, 155}, 0, places, 0, 12);
    for (int i = 6; i < 32; i++) {
      places[2 * i] = 300 + 27 * (i - 6);
      places[2 * i + 1] = 300 + (i - 6) * (i - 6);
    }
    c = seen(EYE + "off 5;bar 9999;" + sky(places), 1, 1, 9, 11, 1, 8, 11, 6, 7, 3, 11, 6, 14, 14, 5, 8, 12, 4);
    Edge.due("named", c.eye.namings(0, 1, 0), 6);
    int[][] steps = {{10, 0}, {0, 5}, {8, 5}, {11, 3}, {6, 2}};
    BigInteger upper = BigInteger.ONE;
    for (int[] step : steps) upper = upper.multiply(BigInteger.valueOf(pairsThatFit(places, (int) Math.sqrt(2500 * (step[0] * step[0] + step[1] * step[1])))));
    BigInteger lower = BigInteger.valueOf(496).pow(5);
    BigInteger both = upper.gcd(lower);
    Edge.due("upper of six", c.eye.odds(0, 0, 0, 0), upper.divide(both).longValue());
    Edge.due("lower of six", c.eye.odds(0, 0, 1, 0), lower.divide(both).longValue());
    // a POINT that is not named between two that are
    c = seen(EYE + "off 0;" + sky(100, 100, 140, 100, 100, 130, 500, 500, 540, 500), 2, 2, 9, 15, 15, 8, 10, 2, 7, 2, 8, 6);
    Edge.due("upper with a stray POINT", c.eye.odds(0, 0, 0, 0), 1);
    Edge.due("lower with a stray POINT: 2/10 and 1/10", c.eye.odds(0, 0, 1, 0), 50);
  }

  private static int pairsThatFit(int[] places, int length) {
    int all = 0;
    for (int a = 0; 2 * a < places.length; a++) {
      for (int b = 0; b < a; b++) all += Math.abs(Edge.length(places, a, b) - length) <= 50 ? 1 : 0;
    }
    return all;
  }

  private static void told() {
    of("It is TOLD, if it is the only NAMING, and its ODDS times bar are no more than 1.");
    String three = EYE + "off 0;" + sky(100, 100, 140, 100, 100, 130);
    int[][] bars = {{1, 1}, {8, 1}, {9, 1}, {10, 0}, {9999, 0}};
    for (int[] bar : bars) Edge.due("1/9 by bar " + bar[0], seen(three + "bar " + bar[0] + ";", TRIANGLE).eye.told(0, 0), bar[1]);
    String five = EYE + "off 0;" + sky(100, 100, 140, 100, 100, 130, 500, 500, 560, 500);
    int[][] more = {{99, 1}, {100, 1}, {101, 0}};
    for (int[] bar : more) Edge.due("1/100 by bar " + bar[0], seen(five + "bar " + bar[0] + ";", TRIANGLE).eye.told(0, 0), bar[1]);
    // 2/10 * 1/10 is 1/50
    String alike = EYE + "off 0;" + sky(100, 100, 140, 100, 100, 130, 500, 500, 540, 500);
    Edge.due("1/50 by bar 50", seen(alike + "bar 50;", TRIANGLE).eye.told(0, 0), 1);
    Edge.due("1/50 by bar 51", seen(alike + "bar 51;", TRIANGLE).eye.told(0, 0), 0);
    Edge.due("no NAMING", seen(three + "bar 1;", 2, 2, 9).eye.told(0, 0), 0);
    String twice = EYE + "off 0;bar 1;" + sky(100, 100, 140, 100, 100, 130, 500, 500, 540, 500, 500, 530);
    Edge.due("two NAMINGS", seen(twice, TRIANGLE).eye.namings(0, 0, 0), 2);
    Edge.due("are not TOLD", seen(twice, TRIANGLE).eye.told(0, 0), 0);
  }

  private static void turns() {
    of("TURN of a NAMING: A the sum of squares of a, C that of dot products, S that of cross products (a x b) of a and b, a: a named POINT "
        + "less the mean of all of them, b: its STAR less the mean of these; all of them times how many they are. "
        + "C and S without what both have in common.");
    String book = EYE + "off 0;" + sky(100, 100, 140, 100, 100, 130);
    int[][] quarters = {{2, 2, 9, 10, 2, 8, 2, 8, 7}, {8, 2, 9, 8, 10, 8, 2, 2, 7}, {10, 8, 9, 2, 8, 8, 10, 2, 7}, {2, 10, 9, 2, 2, 8, 8, 10, 7}};
    int[][] due = {{1, 0}, {0, -1}, {-1, 0}, {0, 1}};
    for (int i = 0; i < 4; i++) {
      Check c = seen(book, quarters[i]);
      Edge.due("C of quarter " + i, c.eye.turn(0, 0, 0, 0), due[i][0]);
      Edge.due("S of quarter " + i, c.eye.turn(0, 0, 1, 0), due[i][1]);
    }
    // times 3, a: (-400, -300), (800, -300), (-400, 600), b: (-410, -310), (820, -310), (-410, 620); C 1542000, S -3000
    Check c = seen(EYE + sky(100, 100, 141, 100, 100, 131), TRIANGLE);
    Edge.due("C", c.eye.turn(0, 0, 0, 0), 514);
    Edge.due("S", c.eye.turn(0, 0, 1, 0), -1);
    // turned as 4 by 3: POINTS along x, STARS along (4, 3)
    c = seen(EYE + "off 0;" + sky(100, 100, 132, 124, 82, 124), TRIANGLE);
    Edge.due("C by 4", c.eye.turn(0, 0, 0, 0), 4);
    Edge.due("S by 3", c.eye.turn(0, 0, 1, 0), 3);
    c = seen(EYE + "off 0;" + sky(200, 200, 168, 176, 218, 176), TRIANGLE);
    Edge.due("C by -4", c.eye.turn(0, 0, 0, 0), -4);
    Edge.due("S by -3", c.eye.turn(0, 0, 1, 0), -3);
  }

  private static void look(Check c, int what, long upper, long lower) {
    Edge.due("what " + what + " upper", c.eye.look(0, 0, what, 0, 0), upper);
    Edge.due("what " + what + " lower", c.eye.look(0, 0, what, 1, 0), lower);
  }

  private static void looks() {
    of("LOOK: the STARS' mean and (the eye's middle, 5 * wide * unit each, less the POINTS' mean) turned and stretched: of (x, y) that is "
        + "((C * x - S * y) / A, (S * x + C * y) / A): fractions, in tenths.");
    // POINT 0 lies at (125, 125), the middle at (400, 400)
    Check c = seen(EYE + "off 0;" + sky(100, 100, 140, 100, 100, 130), TRIANGLE);
    look(c, 0, 1275, 1);
    look(c, 1, 1275, 1);
    // (275, 275) turned by 4/5 and 3/5: (55, 385)
    c = seen(EYE + "off 0;" + sky(100, 100, 132, 124, 82, 124), TRIANGLE);
    look(c, 0, 1055, 1);
    look(c, 1, 1385, 1);
    // A 1500000, C 1542000, S -3000: fractions
    c = seen(EYE + sky(100, 100, 141, 100, 100, 131), TRIANGLE);
    look(c, 0, 25653, 20);
    look(c, 1, 25659, 20);
    // by unit 4 POINT 0 lies (140, 140) from the middle of 8 PIXELS: 0 and below 0
    String eye = "eye wide 8 unit 4 far 9;off 0;";
    c = Edge.seen(eye + "lean -14 -99;" + sky(0, 0, 24, 0, 0, 20), 8, 0, 0, 9, 6, 0, 8, 0, 5, 7);
    look(c, 0, 0, 1);
    look(c, 1, -850, 1);
    c = Edge.seen(eye + "lean 99 99;" + sky(975, 979, 999, 979, 975, 999), 8, 0, 0, 9, 6, 0, 8, 0, 5, 7);
    look(c, 0, 10880, 1);
    look(c, 1, 10920, 1);
    // below 0 and a fraction
    c = Edge.seen(eye.replace("off 0", "off 1") + "lean -99 -99;" + sky(0, 0, 24, 0, 0, 21), 8, 0, 0, 9, 6, 0, 8, 0, 5, 7);
    Edge.due("upper below 0", c.eye.look(0, 0, 1, 0, 0) < 0, true);
    Edge.due("lower above 1", c.eye.look(0, 0, 1, 1, 0) > 1, true);
    long both = BigInteger.valueOf(c.eye.look(0, 0, 1, 0, 0)).gcd(BigInteger.valueOf(c.eye.look(0, 0, 1, 1, 0))).longValue();
    Edge.due("in lowest terms", both, 1);
  }

  private static void stretches() {
    of("STRETCH: the greatest whole number whose square is no more than C * C + S * S, * 1000 / A (cut).");
    Edge.due("as it is", seen(EYE + "off 0;" + sky(100, 100, 140, 100, 100, 130), TRIANGLE).eye.stretch(0, 0, 0), 1000);
    Edge.due("turned as 4 by 3", seen(EYE + "off 0;" + sky(100, 100, 132, 124, 82, 124), TRIANGLE).eye.stretch(0, 0, 0), 1000);
    // 44 by 40 and 33 by 30
    Edge.due("wider by a tenth", seen(EYE + "off 5;" + sky(100, 100, 144, 100, 100, 133), TRIANGLE).eye.stretch(0, 0, 0), 1100);
    Edge.due("narrower by a tenth", seen(EYE + "off 5;" + sky(100, 100, 136, 100, 100, 127), TRIANGLE).eye.stretch(0, 0, 0), 900);
    // the root is 1542002, A 1500000: 1028.001
    Edge.due("cut", seen(EYE + sky(100, 100, 141, 100, 100, 131), TRIANGLE).eye.stretch(0, 0, 0), 1028);
    // times 3, b: (-390, -300), (780, -300), (-390, 600); C 1476000, S -9000, the root 1476027: 984.018
    Edge.due("cut below 1000", seen(EYE + sky(100, 100, 139, 100, 100, 130), TRIANGLE).eye.stretch(0, 0, 0), 984);
  }
}
