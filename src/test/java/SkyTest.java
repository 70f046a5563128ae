/** Promises 27 to 30: LOOKS and HOLES, CHOSEN, HELD, DOUBLES. */
final class SkyTest {
  public static void main(String[] args) {
    looks();
    chosen();
    leastNumber();
    spent();
    held();
    doubles();
    anotherBook();
    Check.finish("SkyTest");
  }

  private static Check with(String book) {
    Check c = new Check();
    if (c.book(book) < 0) Check.due("book '" + book + "'", -1, 0);
    return c;
  }

  private static void dueLooks(String book, int all, int holes, int first) {
    Check c = with(book);
    Check.due(book + " looks", c.eye.looks(0), all);
    Check.due(book + " holes", c.eye.looks(1), holes);
    Check.due(book + " the first", c.eye.looks(2), first);
    Check.due("what 3", c.eye.looks(3), -1);
    Check.due("what -1", c.eye.looks(-1), -1);
  }

  private static void looks() {
    dueLooks("", 100, 100, 0);
    dueLooks("step 999 needs 1;", 4, 4, 0);
    dueLooks("step 500 needs 1;", 4, 4, 0);
    dueLooks("step 499 needs 1;", 9, 9, 0);
    dueLooks("step 333 needs 1;", 16, 16, 0);
    dueLooks("step 111 needs 1;", 100, 100, 0);
    // one star in a corner is seen from there alone
    dueLooks("step 999 needs 1;star a at 0 0 light 1;", 4, 3, 999);
    dueLooks("step 999 needs 1;star a at 0 999 light 1;", 4, 3, 0);
    dueLooks("step 999 needs 1;star a at 0 0 light 1;star b at 0 999 light 1;", 4, 2, 999000);
    dueLooks("step 999 needs 1;star a at 0 0 light 1;star b at 0 999 light 1;star c at 999 0 light 1;", 4, 1, 999999);
    dueLooks("step 999 needs 1;star a at 0 0 light 1;star b at 0 999 light 1;star c at 999 0 light 1;star d at 999 999 light 1;", 4, 0, -1);
    // 50 away: 30 and 40
    dueLooks("step 500 needs 1;eye wide 8 unit 5 far 50;star a at 530 540 light 1;", 4, 3, 0);
    dueLooks("step 500 needs 1;eye wide 8 unit 5 far 49;star a at 530 540 light 1;", 4, 4, 0);
    // without lean
    dueLooks("step 500 needs 1;lean 99 99;star a at 500 500 light 1;", 4, 3, 0);
    dueLooks("step 500 needs 2;star a at 500 500 light 1;star b at 530 500 light 1;", 4, 3, 0);
    dueLooks("step 500 needs 3;star a at 500 500 light 1;star b at 530 500 light 1;", 4, 4, 0);
  }

  private static void dueChosen(String book, int count, int which) {
    Check c = with(book);
    Check.due(book + " how many", c.eye.chosen(0), count);
    Check.due(book + " which", c.eye.chosen(1), which);
    Check.due("what 2", c.eye.chosen(2), -1);
    Check.due("what -1", c.eye.chosen(-1), -1);
  }

  private static final String ROUND = "star a at 500 520 light 1;star b at 520 500 light 1;star c at 500 480 light 1;star d at 480 500 light 1;";

  private static void chosen() {
    dueChosen("", 0, 0);
    dueChosen("star a at 550 550 light 1;", 0, 0);
    dueChosen("step 500 needs 1;" + ROUND, 1, 1);
    dueChosen("step 500 needs 3;" + ROUND, 3, 7);
    dueChosen("step 500 needs 4;" + ROUND, 4, 15);
    // a HOLE wants all that it sees
    dueChosen("step 500 needs 6;" + ROUND, 4, 15);
    dueChosen("step 500 needs 2;star a at 0 0 light 1;" + ROUND.replace("star a", "star e"), 3, 7);
    // one in between is seen from both (0, 0) and (0, 999), if far reaches so far
    String three = "star a at 0 0 light 1;star b at 0 999 light 1;star c at 0 500 light 1;";
    dueChosen("step 999 needs 1;eye wide 8 unit 5 far 500;" + three, 1, 4);
    dueChosen("step 999 needs 1;eye wide 8 unit 5 far 499;" + three, 2, 3);
    dueChosen("step 999 needs 2;eye wide 8 unit 5 far 500;" + three, 3, 7);
  }

  private static void leastNumber() {
    // (0, 0) sees a and d, (0, 999) sees b and d, (999, 999) sees b and c: b and a, b and d or c and d
    String book = "step 999 needs 1;eye wide 8 unit 5 far 500;star a at 30 0 light 1;star b at 500 999 light 1;"
        + "star c at 999 970 light 1;star d at 0 500 light 1;";
    Check c = with(book);
    Check.due("how many", c.eye.chosen(0), 2);
    Check.due("which", c.eye.chosen(1), 3);
    int[][] sky = {{90, 100}, {310, 20}, {400, 400}, {222, 333}, {800, 100}, {650, 910}, {120, 700}, {940, 940}, {510, 590},
        {30, 480}, {700, 300}, {990, 10}, {333, 777}, {777, 555}, {550, 130}, {10, 980}};
    for (int needs = 1; needs <= 6; needs++) {
      for (int far = 150; far <= 900; far += 150) {
        StringBuilder text = new StringBuilder("step 130 needs " + needs + ";eye wide 8 unit 5 far " + far + ";");
        for (int i = 0; i < sky.length; i++) {
          text.append("star x").append((char) ('a' + i)).append(" at ").append(sky[i][0]).append(' ').append(sky[i][1]).append(" light 1;");
        }
        c = with(text.toString());
        int due = chosenByTrying(sky, 130, far, needs);
        Check.due("needs " + needs + " far " + far, c.eye.chosen(1), due);
        Check.due("how many", c.eye.chosen(0), Integer.bitCount(due));
      }
    }
  }

  private static int chosenByTrying(int[][] sky, int step, int far, int needs) {
    int best = -1;
    for (int bits = 0; bits < 1 << sky.length; bits++) {
      if (best >= 0 && Integer.bitCount(bits) >= Integer.bitCount(best)) continue;
      boolean enough = true;
      for (int x = 0; x <= 999 && enough; x += step) {
        for (int y = 0; y <= 999 && enough; y += step) {
          int sees = 0;
          int has = 0;
          for (int s = 0; s < sky.length; s++) {
            int dx = sky[s][0] - x;
            int dy = sky[s][1] - y;
            if (dx * dx + dy * dy > far * far) continue;
            sees++;
            has += bits >> s & 1;
          }
          enough = has >= Math.min(needs, sees);
        }
      }
      if (enough) best = bits;
    }
    return best;
  }

  private static void spent() {
    StringBuilder book = new StringBuilder("step 999 needs 1;");
    for (int i = 0; i < 16; i++) book.append("star x").append((char) ('a' + i)).append(" at ").append(30 * i).append(" 0 light 1;");
    Check c = with(book.toString());
    Check.due("16 stars", c.eye.chosen(0), 1);
    Check.due("which", c.eye.chosen(1), 1);
    book.append("star y at 999 999 light 1;");
    c = with(book.toString());
    Check.due("17 stars", c.eye.chosen(0), -2);
    Check.due("which of 17", c.eye.chosen(1), -2);
    Check.due("what 2 of 17", c.eye.chosen(2), -1);
  }

  /** What was worked out for one BOOK is not answered for the next. */
  private static void anotherBook() {
    Check c = new Check();
    c.book("step 500 needs 3;off 5;" + ROUND);
    int[] first = {4, 3, 0, 3, 7, 4, 0};
    int[] second = {4, 3, 0, 1, 1, 3, 1};
    for (int round = 0; round < 4; round++) {
      int[] due = round % 2 == 0 ? first : second;
      for (int what = 0; what < 3; what++) Check.due("looks of book " + round, c.eye.looks(what), due[what]);
      for (int what = 0; what < 2; what++) Check.due("chosen of book " + round, c.eye.chosen(what), due[3 + what]);
      Check.due("held of book " + round, c.eye.held(99999), due[5]);
      Check.due("doubles of book " + round, c.eye.doubles(), due[6]);
      // seen from c, a and b are 100 and 100 away
      c.book(round % 2 == 0 ? "step 500 needs 1;star a at 500 500 light 1;star b at 700 500 light 1;star c at 600 500 light 1;"
          : "step 500 needs 3;off 5;" + ROUND);
    }
    c.book("bar 0;");
    Check.due("a FAULT changes nothing", c.eye.chosen(1), 7);
  }

  private static void held() {
    Check none = with("");
    Check.due("no stars", none.eye.held(99999), 0);
    Check.due("-1", none.eye.held(-1), -1);
    Check.due("100000", none.eye.held(100000), -1);
    Check.due("MAX", none.eye.held(Integer.MAX_VALUE), -1);
    Check.due("MIN", none.eye.held(Integer.MIN_VALUE), -1);
    // by light: c, a, d, b; pairs no farther than 80: c-a 80, a-b 30, c-b 50; d is far from all
    Check c = with("room star 10 pair 3;star a at 100 100 light 5;star b at 130 100 light 2;star c at 180 100 light 9;star d at 900 900 light 5;");
    int[][] due = {{0, 0}, {9, 0}, {10, 1}, {22, 1}, {23, 2}, {32, 2}, {33, 3}, {48, 3}, {49, 4}, {99999, 4}};
    for (int[] one : due) Check.due("held " + one[0], c.eye.held(one[0]), one[1]);
    // like light goes by numbers: a and b are a pair, a and c are none
    c = with("room star 10 pair 3;star a at 0 0 light 5;star b at 0 80 light 5;star c at 0 500 light 5;");
    Check.due("22", c.eye.held(22), 1);
    Check.due("23", c.eye.held(23), 2);
    Check.due("33", c.eye.held(33), 3);
    c = with("room star 10 pair 3;star a at 0 0 light 5;star b at 0 81 light 5;");
    Check.due("farther than 80", c.eye.held(20), 2);
    c = with("star a at 0 0 light 5;star b at 0 80 light 5;lean 5 5;");
    Check.due("6 and 4 if they are not told", c.eye.held(15), 1);
    Check.due("6 and 4 if they are not told", c.eye.held(16), 2);
  }

  private static void doubles() {
    Check.due("none", with("").eye.doubles(), 0);
    // all lengths of a square's corners to two others differ by 165 at most
    String square = "star a at 100 100 light 1;star b at 140 100 light 1;star c at 140 140 light 1;star d at 100 140 light 1;";
    // the opposite corners are alike seen from the two others: 2 pairs; from neighbours 400 and 565 differ
    Check.due("needs 2", with("step 100 needs 2;off 0;" + square).eye.doubles(), 2);
    Check.due("needs 1", with("step 100 needs 1;off 0;" + square).eye.doubles(), 2);
    Check.due("needs 3", with("step 100 needs 3;off 0;" + square).eye.doubles(), 0);
    // from c: a 500, b 400 and d 350
    String three = "star a at 130 100 light 1;star b at 100 140 light 1;star c at 100 100 light 1;";
    Check.due("100 differ, off 5", with("step 100 needs 1;off 5;" + three).eye.doubles(), 0);
    String near = "star a at 135 100 light 1;star b at 100 140 light 1;star c at 100 100 light 1;";
    // c sees a at 350 and b at 400
    Check.due("50 differ, off 5", with("step 100 needs 1;off 5;" + near).eye.doubles(), 1);
    Check.due("50 differ, off 4", with("step 100 needs 1;off 4;" + near).eye.doubles(), 0);
  }
}
