/** Promises 14 to 35: what is answered at the boundaries, what is refused, and what that leaves as it was. */
final class EdgesOfAnswers {
  private static final int MIN = EdgesOfPromises.MIN;
  private static final int MAX = EdgesOfPromises.MAX;
  private static final long GAP = StarEye.GAP;
  private static final String EYE = EdgesOfPromises.EYE;
  private static final String SQUARE = EdgesOfBook.sky(100, 100, 140, 100, 140, 140, 100, 140);
  private static final int[] CORNERS = {2, 2, 9, 10, 2, 8, 10, 10, 7, 2, 10, 6};

  static void run() {
    length();
    namings();
    named();
    odds();
    told();
    turn();
    look();
    stretch();
    followed();
    follow();
    wanderers();
    shift();
    liar();
    looks();
    chosen();
    held();
    doubles();
    trust();
    believed();
    image();
    back();
    about();
  }

  private static Check square() {
    return Edge.seen(EYE + SQUARE, 16, CORNERS);
  }

  /** Nothing is answered for a PICTURE without NAMINGS. */
  private static void without(long none, EdgesOfPromises.AskPicture ask) {
    Edge.due("a PICTURE without NAMINGS", ask.of(Edge.seen(EYE + SQUARE, 16, 2, 2, 9).eye, 0, 0), none);
    Edge.due("a PICTURE without DOTS", ask.of(Edge.seen(EYE + SQUARE, 16).eye, 0, 0), none);
    Edge.due("a BOOK without STARS", ask.of(Edge.seen(EYE, 16, CORNERS).eye, 0, 0), none);
  }

  private static void length() {
    Edge.of("Promise 14", "LENGTH of two STARS;");
    Check c = square();
    int[][] due = {{0, 1, 400}, {1, 0, 400}, {0, 2, 565}, {3, 1, 565}, {3, 0, 400}, {0, 0, 0}, {3, 3, 0}};
    for (int[] one : due) Edge.due(one[0] + ", " + one[1], c.eye.length(one[0], one[1]), one[2]);
    Edge.of("Promise 14", "NONE if one is none.");
    EdgesOfPromises.numbers("the first", c.eye, 3, -1, (e, star) -> e.length(star, 0));
    EdgesOfPromises.numbers("the second", c.eye, 3, -1, (e, star) -> e.length(3, star));
    EdgesOfPromises.numbers("both", c.eye, 3, -1, (e, star) -> e.length(star, star));
    Edge.due("no STARS", new StarEye().length(0, 0), -1);
    int[] places = new int[64];
    for (int i = 0; i < 32; i++) places[2 * i] = 30 * i;
    Check full = Edge.goodBook(EdgesOfBook.sky(places), 32);
    EdgesOfPromises.numbers("of 32", full.eye, 31, -1, (e, star) -> e.length(star, 31));
  }

  private static void namings() {
    Edge.of("Promise 15", "How many NAMINGS (what 0), how many POINTS they name (1);");
    Edge.due("NAMINGS", square().eye.namings(0, 0, 0), 4);
    Edge.due("POINTS", square().eye.namings(0, 1, 0), 4);
    Check none = Edge.seen(EYE + SQUARE, 16, 2, 2, 9, 10, 2, 8);
    Edge.due("no NAMINGS", none.eye.namings(0, 0, 0), 0);
    Edge.due("name no POINTS", none.eye.namings(0, 1, 0), 0);
    Edge.of("Promise 15", "NONE if the PICTURE does not count, or for another what.");
    EdgesOfPromises.counts(-1, (e, picture, k) -> e.namings(picture, 0, k));
    EdgesOfPromises.counts(-1, (e, picture, k) -> e.namings(picture, 1, k));
    EdgesOfPromises.numbers("what", square().eye, 1, -1, (e, what) -> e.namings(0, what, 0));
    EdgesOfPromises.numbers("what without NAMINGS", none.eye, 1, -1, (e, what) -> e.namings(0, what, 0));
  }

  private static void named() {
    Edge.of("Promise 16", "The STAR of a POINT (0 .. 5) in the i-th NAMING (from 0 on);");
    Check c = square();
    for (int i = 0; i < 4; i++) {
      for (int point = 0; point < 4; point++) Edge.due("NAMING " + i + ", POINT " + point, c.eye.named(0, i, point, 0), (i + point) % 4);
    }
    String six = EYE + EdgesOfBook.sky(100, 100, 150, 100, 150, 125, 110, 150, 165, 165, 135, 155);
    Check all = Edge.seen(six, 16, 1, 1, 9, 11, 1, 8, 11, 6, 7, 3, 11, 6, 14, 14, 5, 8, 12, 4, 15, 0, 3);
    EdgesOfPromises.numbers("POINT", all.eye, 5, -1, (e, point) -> e.named(0, 0, point, 0));
    Edge.due("POINT 5", all.eye.named(0, 0, 5, 0), 5);
    int[] places = new int[64];
    places[62] = 900;
    places[63] = 900;
    for (int i = 0; i < 31; i++) places[2 * i] = 30 * i;
    places[58] = 940;
    places[59] = 900;
    places[60] = 900;
    places[61] = 930;
    Check last = Edge.seen(EYE + EdgesOfBook.sky(places), 16, 2, 2, 9, 10, 2, 8, 2, 8, 7);
    Edge.due("the STAR 31", last.eye.named(0, 0, 0, 0), 31);
    Edge.of("Promise 16", "NONE if it names none, or one can't be.");
    Edge.due("POINT 4 is none", c.eye.named(0, 0, 4, 0), -1);
    Edge.due("POINT 5 is none", c.eye.named(0, 0, 5, 0), -1);
    EdgesOfPromises.numbers("NAMING", c.eye, 3, -1, (e, i) -> e.named(0, i, 0, 0));
    EdgesOfPromises.counts(-1, (e, picture, k) -> e.named(picture, 0, 0, k));
    without(-1, (e, picture, k) -> e.named(picture, 0, 0, k));
    Check stray = Edge.seen(EYE + SQUARE, 16, 2, 2, 9, 15, 15, 8, 10, 2, 7, 10, 10, 6);
    Edge.due("a POINT that is not named", stray.eye.named(0, 0, 1, 0), -1);
    Edge.due("one behind it that is", stray.eye.named(0, 0, 2, 0), 1);
  }

  private static void odds() {
    Edge.of("Promise 17", "ODDS of the i-th NAMING: upper part (0), lower part (1), in lowest terms;");
    Check c = square();
    for (int i = 0; i < 4; i++) {
      Edge.due("64 by 216, upper " + i, c.eye.odds(0, i, 0, 0), 8);
      Edge.due("64 by 216, lower " + i, c.eye.odds(0, i, 1, 0), 27);
    }
    Check three = EdgesOfPromises.three();
    Edge.due("1 by 9, upper", three.eye.odds(0, 0, 0, 10), 1);
    Edge.due("1 by 9, lower", three.eye.odds(0, 0, 1, 10), 9);
    Edge.of("Promise 17", "GAP if there is none such, or for another part.");
    EdgesOfPromises.numbers("NAMING", c.eye, 3, GAP, (e, i) -> e.odds(0, i, 0, 0));
    EdgesOfPromises.numbers("part", c.eye, 1, GAP, (e, part) -> e.odds(0, 0, part, 0));
    EdgesOfPromises.counts(GAP, (e, picture, k) -> e.odds(picture, 0, 1, k));
    without(GAP, (e, picture, k) -> e.odds(picture, 0, 0, k));
  }

  private static void told() {
    Edge.of("Promise 18", "1 if the PICTURE's NAMING is TOLD, else 0;");
    Edge.due("TOLD", Edge.seen(EYE + "bar 9;" + EdgesOfPromises.STARS, 16, 2, 2, 9, 10, 2, 8, 2, 8, 7).eye.told(0, 0), 1);
    Edge.due("not TOLD", Edge.seen(EYE + "bar 10;" + EdgesOfPromises.STARS, 16, 2, 2, 9, 10, 2, 8, 2, 8, 7).eye.told(0, 0), 0);
    Edge.due("four NAMINGS", square().eye.told(0, 0), 0);
    without(0, (e, picture, k) -> e.told(picture, k));
    Edge.of("Promise 18", "NONE if it does not count.");
    EdgesOfPromises.counts(-1, (e, picture, k) -> e.told(picture, k));
  }

  private static void turn() {
    Edge.of("Promise 19", "TURN of the i-th NAMING what 0: C, 1: S;");
    Check c = square();
    int[][] due = {{1, 0}, {0, 1}, {-1, 0}, {0, -1}};
    for (int i = 0; i < 4; i++) {
      for (int what = 0; what < 2; what++) Edge.due("NAMING " + i + ", what " + what, c.eye.turn(0, i, what, 0), due[i][what]);
    }
    Edge.of("Promise 19", "GAP if there is none such, or for another what.");
    EdgesOfPromises.numbers("NAMING", c.eye, 3, GAP, (e, i) -> e.turn(0, i, 0, 0));
    EdgesOfPromises.numbers("what", c.eye, 1, GAP, (e, what) -> e.turn(0, 0, what, 0));
    EdgesOfPromises.counts(GAP, (e, picture, k) -> e.turn(picture, 0, 0, k));
    without(GAP, (e, picture, k) -> e.turn(picture, 0, 1, k));
  }

  private static void look() {
    Edge.of("Promise 20", "LOOK of the i-th NAMING what 0: x, 1: y: upper part (0; it may be below 0), lower part (1), in lowest terms;");
    Check c = square();
    int[][] due = {{1275, 1275}, {1125, 1275}, {1125, 1125}, {1275, 1125}};
    for (int i = 0; i < 4; i++) {
      for (int what = 0; what < 2; what++) {
        Edge.due("NAMING " + i + ", what " + what, c.eye.look(0, i, what, 0, 0), due[i][what]);
        Edge.due("NAMING " + i + ", what " + what + ", lower", c.eye.look(0, i, what, 1, 0), 1);
      }
    }
    Check below = Edge.seen("eye wide 8 unit 4 far 9;off 0;lean -15 -99;" + EdgesOfBook.sky(0, 0, 24, 0, 0, 20), 8, 0, 0, 9, 6, 0, 8, 0, 5, 7);
    Edge.due("x below 0", below.eye.look(0, 0, 0, 0, 0), -10);
    Edge.due("y below 0", below.eye.look(0, 0, 1, 0, 0), -850);
    Edge.due("lower part of what is below 0", below.eye.look(0, 0, 1, 1, 0), 1);
    Edge.of("Promise 20", "GAP likewise, or if A is 0.");
    // A is never 0: named POINTS lie as far apart as STARS, that is 20, but for off, 5 at most
    EdgesOfPromises.numbers("NAMING", c.eye, 3, GAP, (e, i) -> e.look(0, i, 0, 0, 0));
    EdgesOfPromises.numbers("what", c.eye, 1, GAP, (e, what) -> e.look(0, 0, what, 0, 0));
    EdgesOfPromises.numbers("part", c.eye, 1, GAP, (e, part) -> e.look(0, 0, 1, part, 0));
    EdgesOfPromises.counts(GAP, (e, picture, k) -> e.look(picture, 0, 0, 0, k));
    EdgesOfPromises.counts(GAP, (e, picture, k) -> e.look(picture, 0, 1, 1, k));
    without(GAP, (e, picture, k) -> e.look(picture, 0, 0, 1, k));
  }

  private static void stretch() {
    Edge.of("Promise 21", "STRETCH of the i-th NAMING;");
    Check c = square();
    for (int i = 0; i < 4; i++) Edge.due("NAMING " + i, c.eye.stretch(0, i, 0), 1000);
    Check two = Edge.seen("eye wide 16 unit 5 far 9;off 5;" + EdgesOfBook.sky(100, 100, 140, 100, 100, 130, 500, 500, 544, 500, 500, 533), 16,
        2, 2, 9, 10, 2, 8, 2, 8, 7);
    Edge.due("the first of two", two.eye.stretch(0, 0, 0), 1000);
    Edge.due("the second of two", two.eye.stretch(0, 1, 0), 1100);
    Edge.of("Promise 21", "GAP likewise.");
    EdgesOfPromises.numbers("NAMING", c.eye, 3, GAP, (e, i) -> e.stretch(0, i, 0));
    EdgesOfPromises.counts(GAP, (e, picture, k) -> e.stretch(picture, 0, k));
    without(GAP, (e, picture, k) -> e.stretch(picture, 0, k));
  }

  private static void followed() {
    Edge.of("Promise 22", "FOLLOWED what 0: how many, 1: LOST, 2: NEW;");
    Check c = Edge.seen(EYE, 16, 2, 2, 9, 8, 8, 8, 4, 12, 7);
    c.stars(16, 2, 2, 9, 8, 8, 8, 12, 12, 7, 14, 14, 6);
    int[] due = {2, 1, 2};
    for (int what = 0; what < 3; what++) Edge.due("what " + what, c.eye.followed(0, 1, 0, 0, what, 0), due[what]);
    Edge.of("Promise 22", "NONE if one can't be (x, y -999 .. 999), or for another what.");
    EdgesOfPromises.numbers("what", c.eye, 2, -1, (e, what) -> e.followed(0, 1, 0, 0, what, 0));
    for (int by : new int[] {-999, 999}) {
      Edge.due("x " + by, c.eye.followed(0, 1, by, 0, 1, 0), 3);
      Edge.due("y " + by, c.eye.followed(0, 1, 0, by, 2, 0), 4);
      Edge.due("both " + by, c.eye.followed(0, 1, by, by, 0, 0), 0);
    }
    for (int by : new int[] {-1000, 1000, MIN, MAX, MIN + 999, MAX - 999}) {
      Edge.due("x " + by, c.eye.followed(0, 1, by, 0, 1, 0), -1);
      Edge.due("y " + by, c.eye.followed(0, 1, 0, by, 1, 0), -1);
    }
    for (int what = 0; what < 3; what++) {
      int asked = what;
      EdgesOfPromises.counts(-1, (e, picture, k) -> e.followed(picture, 0, 0, 0, asked, k));
      EdgesOfPromises.counts(-1, (e, picture, k) -> e.followed(0, picture, 0, 0, asked, k));
      EdgesOfPromises.counts(-1, (e, picture, k) -> e.followed(picture, picture, 0, 0, asked, k));
    }
  }

  private static void follow() {
    Edge.of("Promise 23", "The POINT of the second one as which a POINT of the first one is FOLLOWED;");
    // the SMEAR of the first one is no POINT
    Check c = Edge.seen(EYE, 16, 0, 0, 9, 1, 0, 9, 2, 0, 9, 3, 0, 9, 8, 8, 8, 4, 12, 7);
    c.stars(16, 4, 12, 9, 12, 12, 8, 8, 8, 3);
    Edge.due("POINT 0", c.eye.follow(0, 1, 0, 0, 0, 0), 2);
    Edge.due("POINT 1", c.eye.follow(0, 1, 0, 0, 1, 0), 0);
    Edge.of("Promise 23", "NONE likewise, or if it is LOST.");
    EdgesOfPromises.numbers("POINT", c.eye, 1, -1, (e, point) -> e.follow(0, 1, 0, 0, point, 0));
    Edge.due("LOST", c.eye.follow(1, 0, 0, 0, 1, 0), -1);
    Edge.due("LOST by a shift", c.eye.follow(0, 1, 1, 0, 0, 0), -1);
    for (int by : new int[] {-1000, -999, 999, 1000, MIN, MAX}) {
      Edge.due("x " + by, c.eye.follow(0, 1, by, 0, 0, 0), -1);
      Edge.due("y " + by, c.eye.follow(0, 1, 0, by, 0, 0), -1);
    }
    EdgesOfPromises.counts(-1, (e, picture, k) -> e.follow(picture, picture, 0, 0, 0, k));
    // by -10 or 10 PICTURE 2 is followed, too: its POINTS lie one PIXEL aside
    StarEye e = EdgesOfPromises.three().eye;
    Edge.due("from 0 to 2", e.follow(0, 2, 10, 0, 0, 10), 0);
    Edge.due("from 2 to 0", e.follow(2, 0, -10, 0, 2, 10), 2);
    Edge.due("to one that is not told yet", e.follow(0, 2, 10, 0, 0, 9), -1);
    Edge.due("from one that is UNTOLD", e.follow(1, 2, 10, 0, 0, 10), -1);
    for (int picture : new int[] {MIN, -1, 3, 12, MAX}) {
      Edge.due("from " + picture, e.follow(picture, 0, 0, 0, 0, 10), -1);
      Edge.due("to " + picture, e.follow(0, picture, 0, 0, 0, 10), -1);
    }
  }

  private static void wanderers() {
    Edge.of("Promise 24", "WANDERERS, as bits;");
    Edge.due("none", square().eye.wanderers(0, 0), 0);
    int[] six = {2, 2, 9, 10, 2, 9, 2, 8, 9, 4, 4, 5, 13, 6, 5, 6, 13, 5};
    Edge.due("three", Edge.seen(EYE + EdgesOfPromises.STARS, 16, six).eye.wanderers(0, 0), 8 + 16 + 32);
    Edge.of("Promise 24", "NONE if the PICTURE does not count, or has no NAMING.");
    EdgesOfPromises.counts(-1, (e, picture, k) -> e.wanderers(picture, k));
    without(-1, (e, picture, k) -> e.wanderers(picture, k));
  }

  private static void shift() {
    Edge.of("Promise 25", "SHIFT of a STAR what 0: x, 1: y;");
    StarEye e = EdgesOfPromises.three().eye;
    for (int star = 0; star < 3; star++) {
      Edge.due("x of " + star, e.shift(0, 2, star, 0, 10), 10);
      Edge.due("y of " + star, e.shift(0, 2, star, 1, 10), 0);
      Edge.due("x back of " + star, e.shift(2, 0, star, 0, 10), -10);
    }
    Edge.of("Promise 25", "GAP if there is none, one can't be, or for another what.");
    EdgesOfPromises.numbers("what", e, 1, GAP, (x, what) -> x.shift(0, 2, 0, what, 10));
    EdgesOfPromises.numbers("STAR", e, 2, GAP, (x, star) -> x.shift(0, 2, star, 0, 10));
    EdgesOfPromises.counts(GAP, (x, picture, k) -> x.shift(picture, picture, 0, 0, k));
    EdgesOfPromises.counts(GAP, (x, picture, k) -> x.shift(picture, picture, 2, 1, k));
    for (int picture : new int[] {MIN, -1, 1, 3, 12, MAX}) {
      Edge.due("from " + picture, e.shift(picture, 0, 0, 0, 10), GAP);
      Edge.due("to " + picture, e.shift(0, picture, 0, 0, 10), GAP);
    }
    Edge.due("to one that is not told yet", e.shift(0, 2, 0, 0, 9), GAP);
    without(GAP, (x, picture, k) -> x.shift(picture, picture, 0, 0, k));
    // a POINT that is not named is no STAR -1
    Check stray = Edge.seen(EYE + EdgesOfPromises.STARS, 16, 15, 15, 9, 2, 2, 8, 10, 2, 7, 2, 8, 6);
    EdgesOfPromises.numbers("STAR beside a stray POINT", stray.eye, 2, GAP, (x, star) -> x.shift(0, 0, star, 0, 0));
    // a STAR that no NAMING names
    Check c = Edge.seen(EYE + EdgesOfPromises.STARS + "star d at 900 900 light 1;", 16, 2, 2, 9, 10, 2, 8, 2, 8, 7);
    EdgesOfPromises.numbers("STAR", c.eye, 2, GAP, (x, star) -> x.shift(0, 0, star, 0, 0));
  }

  private static void liar() {
    Edge.of("Promise 26", "LIAR (0, 1, 2);");
    StarEye e = new StarEye();
    Edge.due("the first", e.liar(9, 1, 1), 0);
    Edge.due("the second", e.liar(1, 9, 1), 1);
    Edge.due("the third", e.liar(1, 1, 9), 2);
    Edge.due("by 1", e.liar(MAX, MAX, MAX - 1), 2);
    Edge.of("Promise 26", "NONE if there is none.");
    for (int number : new int[] {0, -1, 1, MIN, MAX}) Edge.due("all " + number, e.liar(number, number, number), -1);
  }

  private static void looks() {
    Edge.of("Promise 27", "LOOKS what 0: how many, 1: HOLES, 2: of the first HOLE (by x, then y) 1000 * x + y (NONE if there is none);");
    int[] corners = {0, 0, 0, 999, 999, 0, 999, 999};
    int[] first = {0, 999, 999000, 999999, -1};
    for (int stars = 0; stars <= 4; stars++) {
      Check c = Edge.goodBook("step 999 needs 1;" + EdgesOfBook.sky(java.util.Arrays.copyOf(corners, 2 * stars)), stars);
      Edge.due("LOOKS", c.eye.looks(0), 4);
      Edge.due("HOLES of " + stars, c.eye.looks(1), 4 - stars);
      Edge.due("the first HOLE of " + stars, c.eye.looks(2), first[stars]);
    }
    Check c = Edge.goodBook("step 500 needs 1;" + EdgesOfBook.sky(0, 0, 500, 500), 2);
    Edge.due("by x, then y", c.eye.looks(2), 500);
    c = Edge.goodBook("step 500 needs 1;" + EdgesOfBook.sky(0, 0, 0, 500), 2);
    Edge.due("the next x", c.eye.looks(2), 500000);
    Edge.of("Promise 27", "NONE for another what.");
    EdgesOfPromises.numbers("what", c.eye, 2, -1, (e, what) -> e.looks(what));
  }

  private static void chosen() {
    Edge.of("Promise 28", "CHOSEN what 0: how many, 1: which;");
    Check c = Edge.goodBook("step 500 needs 2;" + EdgesOfBook.sky(250, 250, 500, 500, 520, 500, 480, 500), 4);
    Edge.due("how many", c.eye.chosen(0), 2);
    Edge.due("which", c.eye.chosen(1), 6);
    Edge.due("of no STARS, how many", new StarEye().chosen(0), 0);
    Edge.due("of no STARS, which", new StarEye().chosen(1), 0);
    Edge.of("Promise 28", "NONE for another what;");
    EdgesOfPromises.numbers("what", c.eye, 1, -1, (e, what) -> e.chosen(what));
    EdgesOfPromises.numbers("what of no STARS", new StarEye(), 1, -1, (e, what) -> e.chosen(what));
    Edge.of("Promise 28", "-2 if SPENT.");
    int[] places = new int[34];
    for (int i = 0; i < 17; i++) places[2 * i] = 30 * i;
    Check spent = Edge.goodBook(EdgesOfBook.sky(places), 17);
    Edge.due("17, how many", spent.eye.chosen(0), -2);
    Edge.due("17, which", spent.eye.chosen(1), -2);
    Check most = Edge.goodBook(EdgesOfBook.sky(java.util.Arrays.copyOf(places, 32)), 16);
    Edge.due("16, how many", most.eye.chosen(0) >= 0, true);
    Edge.due("16, which", most.eye.chosen(1) >= 0, true);
    spent.book("");
    Edge.due("behind another BOOK", spent.eye.chosen(0), 0);
  }

  private static void held() {
    Edge.of("Promise 29", "HELD (bytes 0 .. 99999);");
    Check c = Edge.goodBook(EdgesOfBook.sky(0, 0, 500, 500), 2);
    int[][] due = {{0, 0}, {1, 0}, {5, 0}, {6, 1}, {11, 1}, {12, 2}, {99998, 2}, {99999, 2}};
    for (int[] one : due) Edge.due("held " + one[0], c.eye.held(one[0]), one[1]);
    Edge.of("Promise 29", "NONE for another number.");
    for (int bytes : new int[] {-1, -2, MIN, 100000, 100001, MAX}) {
      Edge.due("held " + bytes, c.eye.held(bytes), -1);
      Edge.due("held " + bytes + " of no STARS", new StarEye().held(bytes), -1);
    }
  }

  private static void doubles() {
    Edge.of("Promise 30", "How many pairs are DOUBLE.");
    Edge.due("of no STARS", new StarEye().doubles(), 0);
    Edge.due("none", Edge.goodBook("step 100 needs 3;off 0;" + SQUARE, 4).eye.doubles(), 0);
    Edge.due("two", Edge.goodBook("step 100 needs 2;off 0;" + SQUARE, 4).eye.doubles(), 2);
    // three STARS 200, 200 and 282 apart, off 5: the two sides of 200 from the corner between them
    Edge.due("one", Edge.goodBook("step 100 needs 1;off 5;" + EdgesOfBook.sky(0, 0, 20, 0, 0, 20), 3).eye.doubles(), 1);
    // three of 200, 223 and 223: all pairs
    Edge.due("all three", Edge.goodBook("step 100 needs 1;off 5;" + EdgesOfBook.sky(0, 0, 20, 0, 10, 20), 3).eye.doubles(), 3);
  }

  private static void trust() {
    Edge.of("Promise 31", "TRUST;");
    Check c = EdgesOfPromises.three();
    Edge.due("by no RULES", c.eye.trust(0, 10), 0);
    c.rules("trust 99 when told = 0;");
    Edge.due("by RULES", c.eye.trust(0, 10), 99);
    Edge.of("Promise 31", "NONE if the PICTURE does not count.");
    EdgesOfPromises.counts(-1, (e, picture, k) -> e.trust(picture, k));
  }

  private static void believed() {
    Edge.of("Promise 32", "BELIEVED;");
    Check c = EdgesOfPromises.three();
    int[][] due = {{5, 1}, {9, 1}, {10, 2}, {MAX, 2}};
    for (int[] one : due) Edge.due("as known at " + one[0], c.eye.believed(one[0]), one[1]);
    Edge.of("Promise 32", "NONE if none counts.");
    for (int k : new int[] {MIN, -1, 0, 4}) Edge.due("as known at " + k, c.eye.believed(k), -1);
    Edge.due("no PICTURES", new StarEye().believed(0), -1);
    c.eye.untell(0);
    c.eye.untell(2);
    Edge.due("all are UNTOLD", c.eye.believed(10), -1);
    Edge.due("as known before", c.eye.believed(9), 1);
  }

  // ---- boxes

  private static void image() {
    Edge.of("Promise 33", "All that is told (PICTURES, PIXELS, the TIME) is kept in a BOX 0 .. 2 (empty behind another BOOK): how many PICTURES there are;");
    Check c = new Check();
    for (int box = 0; box < 3; box++) Edge.due("an empty image in " + box, c.eye.image(box), 0);
    for (int i = 1; i <= 12; i++) {
      c.stars(8, 1, 1, 9);
      Edge.due(i + " PICTURES", c.eye.image(i % 3), i);
    }
    c.eye.untell(3);
    Edge.due("UNTOLD ones are there, too", c.eye.image(2), 12);
    for (int box = 0; box < 3; box++) Edge.due("back " + box, c.eye.back(box), box == 0 ? 12 : box == 1 ? 10 : 12);
    c.book("$");
    for (int box = 0; box < 3; box++) Edge.due("behind a FAULT, back " + box, c.eye.back(box) > 0, true);
    c.book("");
    for (int box = 0; box < 3; box++) Edge.due("behind another BOOK, back " + box, c.eye.back(box), -1);
    c.eye.image(1);
    Edge.due("kept anew", c.eye.back(1), 0);
    Edge.due("not in another", c.eye.back(2), -1);
    Edge.of("Promise 33", "NONE if there is none such.");
    c = EdgesOfPromises.three();
    String all = Edge.all(c.eye);
    EdgesOfPromises.numbers("image", c.eye, 2, -1, (e, box) -> e.image(box));
    Edge.same("all stays", Edge.all(c.eye), all);
    Edge.due("and is kept", c.eye.back(2), 3);
  }

  private static void back() {
    Edge.of("Promise 34", "All is as it was kept: how many PICTURES;");
    Check c = EdgesOfPromises.three();
    c.eye.speckless(3, 4, true);
    String first = Edge.all(c.eye);
    Edge.due("image 0", c.eye.image(0), 3);
    for (int i = 0; i < 2; i++) c.stars(16, i, 1, 9);
    c.eye.later(1000);
    c.eye.untell(0);
    c.eye.speckless(3, 4, false);
    c.eye.speckless(15, 15, true);
    String second = Edge.all(c.eye);
    Edge.due("image 2", c.eye.image(2), 5);
    Edge.due("back 0", c.eye.back(0), 3);
    Edge.same("as it was", Edge.all(c.eye), first);
    Edge.due("it may go on", c.eye.untell(2), true);
    c.eye.later(7);
    Edge.due("and have another PICTURE", c.stars(16), 3);
    Edge.due("back 2", c.eye.back(2), 5);
    Edge.same("as it was then", Edge.all(c.eye), second);
    Edge.due("back 0 once more", c.eye.back(0), 3);
    Edge.due("the PICTURE that is not UNTOLD there", c.eye.dots(2, 0, 10), 4);
    Edge.due("back 2 once more", c.eye.back(2), 5);
    kept();
    Edge.of("Promise 34", "NONE, doing nothing, if nothing was.");
    Edge.due("back 1", c.eye.back(1), -1);
    for (int box : new int[] {MIN, -1, 3, 4, MAX}) Edge.due("back " + box, c.eye.back(box), -1);
    Edge.same("all stays", Edge.all(c.eye), second);
    c = EdgesOfPromises.three();
    for (int box = 0; box < 3; box++) c.eye.image(box);
    c.book("");
    c.stars(8);
    String last = Edge.all(c.eye);
    for (int box = 0; box < 3; box++) Edge.due("behind another BOOK, back " + box, c.eye.back(box), -1);
    Edge.same("all stays", Edge.all(c.eye), last);
    // RULES, the BOOK and the TAPE are not told of in a box
    c.eye.image(0);
    c.rules("trust 5 when 1;");
    Check.put(c.eye, "abc");
    c.eye.back(0);
    Edge.due("RULES stay", c.eye.about(2), 1);
    Edge.due("the TAPE stays", c.eye.about(4), 3);
  }

  /** PICTURES of the same number, TOLD at other times, and other PIXELS in each of two boxes. */
  private static void kept() {
    Check c = new Check();
    c.eye.image(1);
    c.stars(8, 1, 1, 9);
    c.eye.later(1);
    c.stars(8, 2, 2, 8);
    c.eye.speckless(1, 2, true);
    c.eye.image(0);
    Edge.due("back to none", c.eye.back(1), 0);
    Edge.due("the TIME", c.eye.about(3), 0);
    Edge.due("PIXELS", c.eye.about(6), 0);
    Edge.due("PICTURE 0 is gone", c.eye.dots(0, 0, 1), -1);
    Edge.due("it can't be UNTOLD", c.eye.untell(0), false);
    c.eye.later(5);
    for (int i = 0; i < 3; i++) c.stars(8, 3, 3, 7 - i);
    c.eye.untell(1);
    c.eye.speckless(2, 1, true);
    c.eye.speckless(7, 7, true);
    c.eye.image(2);
    for (int turn = 0; turn < 2; turn++) {
      Edge.due("back 0", c.eye.back(0), 2);
      int[] light = {9, 8, -1};
      for (int p = 0; p < 3; p++) Edge.due("LIGHT of " + p, c.eye.dot(p, 0, 2, 1), light[p]);
      Edge.due("0 was TOLD at 0", c.eye.dots(0, 0, 0), 1);
      Edge.due("1 was not", c.eye.dots(1, 0, 0), -1);
      Edge.due("1 is not UNTOLD", c.eye.dots(1, 0, 100000), 1);
      Edge.due("PIXELS", c.eye.about(6), 1);
      Edge.due("1, 2 is told", c.eye.speckless(1, 2, true), false);
      Edge.due("2, 1 is not", c.eye.speckless(2, 1, false), false);
      Edge.due("back 2", c.eye.back(2), 3);
      int[] other = {7, -1, 5};
      for (int p = 0; p < 3; p++) Edge.due("LIGHT of " + p, c.eye.dot(p, 0, 2, 5), other[p]);
      Edge.due("0 was not TOLD at 4", c.eye.dots(0, 0, 4), -1);
      Edge.due("the TIME", c.eye.about(3), 5);
      Edge.due("PIXELS", c.eye.about(6), 2);
      Edge.due("2, 1 is told", c.eye.speckless(2, 1, true), false);
      Edge.due("7, 7 is told", c.eye.speckless(7, 7, true), false);
      Edge.due("1, 2 is not", c.eye.speckless(1, 2, false), false);
    }
  }

  private static void about() {
    Edge.of("Promise 35", "What 0: STARS, 1: PICTURES, 2: RULES, 3: the TIME, 4: bytes on the TAPE, 5: units of RULES, 6: PIXELS told to be no SPECK.");
    Check c = EdgesOfPromises.three();
    c.rules("trust 1 when 1+(2);trust 2 when dots;");
    for (int i = 0; i < 7; i++) c.eye.speckless(i, 2 * i, true);
    Check.put(c.eye, "hello, world");
    int[] due = {3, 3, 2, 10, 12, 4, 7};
    for (int what = 0; what < 7; what++) Edge.due("what " + what, c.eye.about(what), due[what]);
    StarEye full = new StarEye();
    Check.put(full, "eye wide 16 unit 5 far 9;");
    full.book();
    for (int pixel = 0; pixel < 256; pixel++) full.speckless(pixel % 16, pixel / 16, true);
    Edge.due("all PIXELS", full.about(6), 256);
    for (int i = 0; i < 100; i++) full.later(1000);
    Edge.due("the last TIME", full.about(3), 100000);
    for (int i = 0; i < 80; i++) full.feed(i, i, i, i, i);
    Edge.due("a full TAPE", full.about(4), 1500);
    Edge.of("Promise 35", "NONE for another what.");
    EdgesOfPromises.numbers("what", c.eye, 6, -1, (e, what) -> e.about(what));
  }
}
