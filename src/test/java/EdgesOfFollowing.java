/** Terms 4: what is FOLLOWED, LOST and NEW, WANDERERS, SHIFTS, the LIAR. */
final class EdgesOfFollowing {
  private static final String HERE = "Terms 4";
  private static final String EYE = "eye wide 16 unit 5 far 9;";
  private static final long GAP = StarEye.GAP;

  static void run() {
    shifted();
    near();
    inOrder();
    lostAndNew();
    wanderers();
    shifts();
    liars();
  }

  private static void of(String sentence) {
    Edge.of(HERE, sentence);
  }

  /** Two PICTURES, one behind the other. */
  private static Check two(String book, int[] first, int[] second) {
    Check c = Edge.seen(EYE + book, 16, first);
    c.stars(16, second);
    return c;
  }

  private static void shifted() {
    of("FOLLOWED from a PICTURE to another one by a shift (x, y, tenths of PIXELS):");
    int[] here = {8, 8, 9};
    int[][] places = {{8, 8}, {15, 8}, {0, 8}, {8, 15}, {8, 0}, {15, 0}, {0, 15}};
    for (int[] to : places) {
      Check c = two("off 0;", here, new int[] {to[0], to[1], 9});
      int x = 10 * (to[0] - 8);
      int y = 10 * (to[1] - 8);
      Edge.due("by " + x + ", " + y, c.eye.followed(0, 1, x, y, 0, 0), 1);
      Edge.due("back", c.eye.followed(1, 0, -x, -y, 0, 0), 1);
      Edge.due("by 1 more x", c.eye.followed(0, 1, x + 1, y, 0, 0), 0);
      Edge.due("by 1 more y", c.eye.followed(0, 1, x, y + 1, 0, 0), 0);
      Edge.due("by 1 less x", c.eye.followed(0, 1, x - 1, y, 0, 0), 0);
      Edge.due("by 1 less y", c.eye.followed(0, 1, x, y - 1, 0, 0), 0);
    }
    // (45 + 55 * 9) / 10 is 54
    Check c = two("off 0;noise 0;", new int[] {4, 4, 9}, new int[] {4, 4, 1, 5, 4, 9});
    Edge.due("from 45 to 54", c.eye.followed(0, 1, 9, 0, 0, 0), 1);
  }

  private static void near() {
    of("for each POINT of the first one in order, the POINT of the second one (not taken yet) whose MIDDLE is nearest (by the sum of both "
        + "differences, without signs) to its MIDDLE and the shift, of like ones the first, if that is no more than off * 10.");
    for (int off = 0; off <= 5; off++) {
      Check c = two("off " + off + ";", new int[] {8, 8, 9}, new int[] {8, 8, 9});
      int most = 10 * off;
      for (int part = 0; part <= most; part += 5) {
        for (int turn = 0; turn < 4; turn++) {
          int x = turn % 2 == 0 ? part : -part;
          int y = turn / 2 == 0 ? most - part : part - most;
          Edge.due("off " + off + " by " + x + ", " + y, c.eye.follow(0, 1, x, y, 0, 0), 0);
          Edge.due("off " + off + " farther in x", c.eye.follow(0, 1, turn % 2 == 0 ? x + 1 : x - 1, y, 0, 0), -1);
          Edge.due("off " + off + " farther in y", c.eye.follow(0, 1, x, turn / 2 == 0 ? y + 1 : y - 1, 0, 0), -1);
        }
      }
    }
    // from (85, 85): POINT 0 is 40 away, 1 is 30 away, 2 is 20 and 10 away, 3 is 20 away
    Check c = two("off 5;", new int[] {8, 8, 9}, new int[] {12, 8, 9, 8, 11, 8, 10, 9, 7, 8, 6, 6});
    Edge.due("the nearest", c.eye.follow(0, 1, 0, 0, 0, 0), 3);
    Edge.due("the nearest by the sum", c.eye.follow(0, 1, 0, 5, 0, 0), 1);
    Edge.due("of like ones the first", c.eye.follow(0, 1, 15, 10, 0, 0), 2);
    c = two("off 5;", new int[] {8, 8, 9}, new int[] {6, 8, 9, 10, 8, 8, 8, 10, 7, 8, 6, 6, 9, 9, 5});
    Edge.due("five alike: the first", c.eye.follow(0, 1, 0, 0, 0, 0), 0);
    Edge.due("two alike: the first of them", c.eye.follow(0, 1, 0, 5, 0, 0), 2);
    Edge.due("one nearer by 1", c.eye.follow(0, 1, 1, 0, 0, 0), 1);
    Edge.due("the last of all", c.eye.follow(0, 1, 10, 10, 0, 0), 4);
  }

  private static void inOrder() {
    // POINT 0 takes what POINT 1 is nearer to; POINT 1 has the next one, if that is near enough
    int[] first = {4, 4, 9, 6, 4, 8};
    int[] second = {6, 4, 9, 8, 4, 8};
    Check c = two("off 2;", first, second);
    Edge.due("POINT 0", c.eye.follow(0, 1, 0, 0, 0, 0), 0);
    Edge.due("POINT 1 has the next one", c.eye.follow(0, 1, 0, 0, 1, 0), 1);
    Edge.due("both", c.eye.followed(0, 1, 0, 0, 0, 0), 2);
    Edge.due("POINT 0 alone is too far", c.eye.follow(0, 1, -1, 0, 0, 0), -1);
    Edge.due("then POINT 1 has the first one", c.eye.follow(0, 1, -1, 0, 1, 0), 0);
    c = two("off 2;", first, new int[] {6, 4, 9, 9, 4, 8});
    Edge.due("POINT 0", c.eye.follow(0, 1, 0, 0, 0, 0), 0);
    Edge.due("POINT 1 has none", c.eye.follow(0, 1, 0, 0, 1, 0), -1);
    // what POINT 0 took is not given to POINT 2, though POINT 1 took another since
    c = two("off 5;", new int[] {4, 4, 9, 12, 12, 8, 4, 6, 7}, new int[] {4, 5, 9, 12, 12, 8, 4, 9, 7});
    int[] due = {0, 1, 2};
    for (int i = 0; i < 3; i++) Edge.due("of three, POINT " + i, c.eye.follow(0, 1, 0, 0, i, 0), due[i]);
    c = two("off 2;", new int[] {4, 4, 9, 12, 12, 8, 4, 6, 7}, new int[] {4, 5, 9, 12, 12, 8});
    int[] lost = {0, 1, -1};
    for (int i = 0; i < 3; i++) Edge.due("of three to two, POINT " + i, c.eye.follow(0, 1, 0, 0, i, 0), lost[i]);
    // all twelve
    StringBuilder rows = new StringBuilder();
    for (int i = 0; i < 16; i++) rows.append(i == 2 || i == 4 ? "0090909090909000;" : "0000000000000000;");
    c = new Check();
    c.book(EYE + "off 0;");
    c.picture(rows.toString());
    c.picture(rows.toString());
    Edge.due("twelve", c.eye.followed(0, 1, 0, 0, 0, 0), 12);
    for (int i = 0; i < 12; i++) Edge.due("POINT " + i, c.eye.follow(0, 1, 0, 0, i, 0), i);
    for (int i = 0; i < 12; i++) Edge.due("POINT " + i + " by 20", c.eye.follow(0, 1, 20, 0, i, 0), i % 6 == 5 ? -1 : i + 1);
    Edge.due("POINT 12", c.eye.follow(0, 1, 0, 0, 12, 0), -1);
  }

  private static void counts(String what, Check c, int found, int lost, int fresh) {
    Edge.due(what + ": FOLLOWED", c.eye.followed(0, 1, 0, 0, 0, 0), found);
    Edge.due(what + ": LOST", c.eye.followed(0, 1, 0, 0, 1, 0), lost);
    Edge.due(what + ": NEW", c.eye.followed(0, 1, 0, 0, 2, 0), fresh);
  }

  private static void lostAndNew() {
    int[] none = {};
    int[] one = {4, 4, 9};
    int[] three = {4, 4, 9, 8, 8, 8, 12, 12, 7};
    of("LOST: POINTS of the first that are not;");
    counts("none to none", two("", none, none), 0, 0, 0);
    counts("one to none", two("", one, none), 0, 1, 0);
    counts("three to one", two("", three, one), 1, 2, 0);
    counts("three to none", two("", three, none), 0, 3, 0);
    counts("a SMEAR is not LOST", two("", new int[] {0, 0, 9, 1, 0, 9, 2, 0, 9, 3, 0, 9}, none), 0, 0, 0);
    of("NEW: those of the second that are not.");
    counts("none to one", two("", none, one), 0, 0, 1);
    counts("one to three", two("", one, three), 1, 0, 2);
    counts("three to three", two("", three, three), 3, 0, 0);
    counts("all others", two("off 0;", one, new int[] {5, 4, 9, 8, 8, 8}), 0, 1, 2);
    counts("a SMEAR is not NEW", two("", none, new int[] {0, 0, 9, 1, 0, 9, 2, 0, 9, 3, 0, 9}), 0, 0, 0);
  }

  private static void wanderers() {
    of("WANDERERS of a PICTURE: its POINTS among the first 6 that the first NAMING does not name.");
    String book = EYE + "off 0;" + EdgesOfBook.sky(100, 100, 140, 100, 100, 130);
    Edge.due("all are named", Edge.seen(book, 16, 2, 2, 9, 10, 2, 8, 2, 8, 7).eye.wanderers(0, 0), 0);
    // the triangle has the lights 8, 6, 4: a stray POINT of light 9, 7, 5, 3 is POINT 0, 1, 2, 3
    for (int place = 0; place < 4; place++) {
      Check c = Edge.seen(book, 16, 2, 2, 8, 10, 2, 6, 2, 8, 4, 4, 4, 9 - 2 * place);
      Edge.due("POINT " + place, c.eye.wanderers(0, 0), 1 << place);
    }
    int[] all = {2, 2, 9, 10, 2, 9, 2, 8, 9, 4, 4, 5, 13, 6, 5, 6, 13, 5, 13, 12, 5, 15, 15, 5};
    Edge.due("three of the first six, not the two behind them", Edge.seen(book, 16, all).eye.wanderers(0, 0), 8 + 16 + 32);
    int[] ahead = {2, 2, 3, 10, 2, 3, 2, 8, 3, 4, 4, 9, 13, 6, 9, 6, 13, 9};
    Edge.due("the first three", Edge.seen(book, 16, ahead).eye.wanderers(0, 0), 1 + 2 + 4);
    // the first of two NAMINGS names POINTS 0, 2, 4
    String twice = EYE + "off 0;" + EdgesOfBook.sky(500, 500, 540, 500, 500, 530);
    Check c = Edge.seen(twice, 16, 0, 0, 9, 8, 0, 7, 0, 6, 5, 3, 9, 8, 11, 9, 6, 3, 15, 4);
    Edge.due("NAMINGS", c.eye.namings(0, 0, 0), 2);
    Edge.due("of the first", c.eye.wanderers(0, 0), 2 + 8 + 32);
  }

  private static void shifts() {
    of("SHIFT of a STAR between two PICTURES: MIDDLE in the second less that in the first, if the first NAMING of each names it.");
    String book = "off 0;" + EdgesOfBook.sky(100, 100, 140, 100, 100, 130, 140, 130);
    // STARS 0, 1, 2, 3, then 0, 1, 2 alone, one PIXEL to the left and three below
    Check c = two(book, new int[] {2, 2, 9, 10, 2, 8, 2, 8, 7, 10, 8, 6}, new int[] {1, 5, 9, 9, 5, 8, 1, 11, 7});
    Edge.due("NAMINGS of the first", c.eye.namings(0, 0, 0), 2);
    Edge.due("NAMINGS of the second", c.eye.namings(1, 0, 0), 2);
    for (int star = 0; star < 3; star++) {
      Edge.due("x of " + star, c.eye.shift(0, 1, star, 0, 0), -10);
      Edge.due("y of " + star, c.eye.shift(0, 1, star, 1, 0), 30);
      Edge.due("x back of " + star, c.eye.shift(1, 0, star, 0, 0), 10);
      Edge.due("y back of " + star, c.eye.shift(1, 0, star, 1, 0), -30);
    }
    Edge.due("one that only the first one's names", c.eye.shift(0, 1, 3, 0, 0), GAP);
    Edge.due("the other way", c.eye.shift(1, 0, 3, 0, 0), GAP);
    Edge.due("a PICTURE and itself", c.eye.shift(0, 0, 3, 0, 0), 0);
    c.stars(16);
    Edge.due("a PICTURE without NAMINGS", c.eye.shift(0, 2, 0, 0, 0), GAP);
    Edge.due("the other way", c.eye.shift(2, 0, 0, 0, 0), GAP);
    // the widest: from one edge to the other
    c = two("off 5;" + EdgesOfBook.sky(100, 100, 120, 100, 100, 120), new int[] {0, 0, 9, 4, 0, 8, 0, 4, 7}, new int[] {15, 15, 9, 11, 15, 8, 15, 11, 7});
    Edge.due("x from edge to edge", c.eye.shift(0, 1, 0, 0, 0), 150);
    Edge.due("y back", c.eye.shift(1, 0, 0, 1, 0), -150);
  }

  private static void liars() {
    of("LIAR of three numbers: that which is not one of the nearest two (of like distances: the first and second, then the first and third "
        + "are the nearest); none if all are alike.");
    int min = Integer.MIN_VALUE;
    int max = Integer.MAX_VALUE;
    int[][] due = {{0, 0, 0, -1}, {7, 7, 7, -1}, {min, min, min, -1}, {max, max, max, -1}, {0, 0, 1, 2}, {0, 1, 0, 1}, {1, 0, 0, 0}, {5, 5, -5, 2},
        {0, 1, 2, 2}, {2, 1, 0, 2}, {1, 0, 2, 2}, {1, 2, 0, 2}, {0, 2, 1, 1}, {2, 0, 1, 1}, {0, 10, 21, 2}, {0, 11, 21, 0}, {0, 21, 10, 1}, {10, 0, 21, 2},
        {11, 0, 21, 1}, {min, max, 0, 0}, {min, max, -2, 1}, {min, max, -1, 1}, {max, min, 0, 1}, {max, min, -1, 0}, {min, 0, max, 0}, {0, min, max, 1},
        {-1, min, max, 2}, {1, min, max, 1}, {min, min, max, 2}, {min, max, max, 0}, {min, max, min, 1}};
    StarEye e = new StarEye();
    for (int[] one : due) {
      int liar = brute(one[0], one[1], one[2]);
      Edge.due("worked out once more: " + one[0] + ", " + one[1] + ", " + one[2], liar, one[3]);
      Edge.due(one[0] + ", " + one[1] + ", " + one[2], e.liar(one[0], one[1], one[2]), one[3]);
    }
  }

  private static int brute(long a, long b, long c) {
    if (a == b && b == c) return -1;
    long[] away = {Math.abs(a - b), Math.abs(a - c), Math.abs(b - c)};
    int nearest = away[1] < away[0] ? 1 : 0;
    return away[2] < away[nearest] ? 0 : 2 - nearest;
  }
}
