/** Promises 22, 23, 25 and 26: FOLLOWED, LOST and NEW, SHIFTS, the LIAR. */
final class FollowTest {
  private static final long GAP = StarEye.GAP;

  public static void main(String[] args) {
    follows();
    takenOnce();
    likeDistances();
    notItself();
    smearsAndSpecks();
    wrongInputs();
    shifts();
    liars();
    Check.finish("FollowTest");
  }

  private static void due(Check c, int x, int y, int found, int lost, int fresh) {
    String what = "by " + x + ", " + y + " ";
    Check.due(what + "found", c.eye.followed(0, 1, x, y, 0, 0), found);
    Check.due(what + "lost", c.eye.followed(0, 1, x, y, 1, 0), lost);
    Check.due(what + "new", c.eye.followed(0, 1, x, y, 2, 0), fresh);
  }

  private static void follows() {
    Check c = new Check();
    c.book("eye wide 16 unit 1 far 1;off 2;");
    c.stars(16, 2, 2, 9, 8, 8, 8);
    c.stars(16, 4, 3, 9, 14, 14, 8, 15, 1, 7);
    due(c, 20, 10, 1, 1, 2);
    due(c, 0, 10, 1, 1, 2);
    due(c, 0, 9, 0, 2, 3);
    due(c, 30, 20, 1, 1, 2);
    due(c, 31, 20, 0, 2, 3);
    due(c, 60, 60, 1, 1, 2);
    due(c, 999, -999, 0, 2, 3);
    Check.due("0 by 20 10", c.eye.follow(0, 1, 20, 10, 0, 0), 0);
    Check.due("1 by 20 10", c.eye.follow(0, 1, 20, 10, 1, 0), -1);
    Check.due("1 by 60 60", c.eye.follow(0, 1, 60, 60, 1, 0), 1);
    Check.due("1 back by -60 -60", c.eye.follow(1, 0, -60, -60, 1, 0), 1);
    Check.due("2 back", c.eye.follow(1, 0, -60, -60, 2, 0), -1);
    c.book("eye wide 16 unit 9 far 1;off 0;");
    c.stars(16, 2, 2, 9);
    c.stars(16, 2, 2, 9);
    due(c, 0, 0, 1, 0, 0);
    due(c, 0, 1, 0, 1, 1);
  }

  private static void takenOnce() {
    Check c = new Check();
    c.book("eye wide 16 unit 1 far 1;off 5;");
    // the brighter one takes the near point, the other one goes on to the next
    c.stars(16, 5, 5, 9, 7, 5, 8);
    c.stars(16, 6, 5, 9, 11, 5, 8);
    due(c, 0, 0, 2, 0, 0);
    Check.due("0", c.eye.follow(0, 1, 0, 0, 0, 0), 0);
    Check.due("1", c.eye.follow(0, 1, 0, 0, 1, 0), 1);
    c.book("eye wide 16 unit 1 far 1;off 3;");
    c.stars(16, 5, 5, 9, 7, 5, 8);
    c.stars(16, 6, 5, 9, 11, 5, 8);
    due(c, 0, 0, 1, 1, 1);
    Check.due("1 is lost", c.eye.follow(0, 1, 0, 0, 1, 0), -1);
  }

  private static void likeDistances() {
    Check c = new Check();
    c.book("eye wide 16 unit 1 far 1;off 5;");
    c.stars(16, 5, 5, 9);
    c.stars(16, 3, 5, 4, 5, 7, 5, 7, 5, 6, 6, 6, 3);
    Check.due("of like ones the first", c.eye.follow(0, 1, 0, 0, 0, 0), 0);
    Check.due("nearer by one", c.eye.follow(0, 1, 0, 1, 0, 0), 1);
    Check.due("the last", c.eye.follow(0, 1, -1, 0, 0, 0), 2);
    Check.due("sums of both differences", c.eye.follow(0, 1, 5, 5, 0, 0), 3);
  }

  private static void notItself() {
    Check c = new Check();
    c.stars(8, 1, 1, 9, 5, 5, 8);
    Check.due("a picture and itself", c.eye.followed(0, 0, 0, 0, 0, 0), 2);
  }

  private static void smearsAndSpecks() {
    Check c = new Check();
    c.stars(8, 0, 0, 9, 1, 0, 9, 2, 0, 9, 3, 0, 9, 6, 6, 7);
    c.stars(8, 0, 0, 9, 6, 6, 7);
    Check.due("a smear is not followed", c.eye.followed(0, 1, 0, 0, 0, 0), 1);
    Check.due("nor lost", c.eye.followed(0, 1, 0, 0, 1, 0), 0);
    Check.due("new", c.eye.followed(0, 1, 0, 0, 2, 0), 1);
    Check.due("POINT 0 is POINT 1", c.eye.follow(0, 1, 0, 0, 0, 0), 1);
    c.eye.later(1);
    c.stars(8, 6, 6, 7);
    Check.due("a speck is not followed", c.eye.followed(0, 1, 0, 0, 0, 1), 0);
    Check.due("as known before", c.eye.followed(0, 1, 0, 0, 0, 0), 1);
    Check.due("follow a speck", c.eye.follow(0, 1, 0, 0, 0, 1), -1);
  }

  private static void wrongInputs() {
    Check c = new Check();
    c.stars(8, 1, 1, 9);
    c.stars(8, 1, 1, 9);
    int[] none = {-1, 2, 12, Integer.MAX_VALUE, Integer.MIN_VALUE};
    for (int bad : none) {
      Check.due("from " + bad, c.eye.followed(bad, 1, 0, 0, 0, 0), -1);
      Check.due("to " + bad, c.eye.followed(0, bad, 0, 0, 0, 0), -1);
      Check.due("follow from " + bad, c.eye.follow(bad, 1, 0, 0, 0, 0), -1);
      Check.due("follow to " + bad, c.eye.follow(0, bad, 0, 0, 0, 0), -1);
      Check.due("follow point " + bad, c.eye.follow(0, 1, 0, 0, bad, 0), -1);
    }
    for (int bad : new int[] {-1000, 1000, Integer.MAX_VALUE, Integer.MIN_VALUE}) {
      Check.due("x " + bad, c.eye.followed(0, 1, bad, 0, 1, 0), -1);
      Check.due("y " + bad, c.eye.followed(0, 1, 0, bad, 1, 0), -1);
      Check.due("follow x " + bad, c.eye.follow(0, 1, bad, 0, 0, 0), -1);
      Check.due("follow y " + bad, c.eye.follow(0, 1, 0, bad, 0, 0), -1);
    }
    Check.due("what 3", c.eye.followed(0, 1, 0, 0, 3, 0), -1);
    Check.due("what -1", c.eye.followed(0, 1, 0, 0, -1, 0), -1);
    Check.due("not known yet", c.eye.followed(0, 1, 0, 0, 0, -1), -1);
    Check.due("not known yet", c.eye.follow(0, 1, 0, 0, 0, -1), -1);
    Check.due("999", c.eye.followed(0, 1, 999, -999, 1, 0), 1);
    c.eye.untell(1);
    Check.due("untold", c.eye.followed(0, 1, 0, 0, 0, 0), -1);
  }

  private static void shifts() {
    Check c = new Check();
    c.book("eye wide 16 unit 5 far 100;off 0;star a at 100 100 light 1;star b at 140 100 light 1;"
        + "star c at 100 130 light 1;star d at 500 500 light 1;");
    c.stars(16, 2, 2, 9, 10, 2, 8, 2, 8, 7);
    c.stars(16, 5, 1, 7, 13, 1, 9, 5, 7, 8);
    c.stars(16, 5, 1, 7);
    for (int star = 0; star < 3; star++) {
      Check.due("x of " + star, c.eye.shift(0, 1, star, 0, 0), 30);
      Check.due("y of " + star, c.eye.shift(0, 1, star, 1, 0), -10);
      Check.due("x back of " + star, c.eye.shift(1, 0, star, 0, 0), -30);
      Check.due("none without a naming", c.eye.shift(0, 2, star, 0, 0), GAP);
      Check.due("none without a naming", c.eye.shift(2, 1, star, 0, 0), GAP);
    }
    Check.due("to itself", c.eye.shift(0, 0, 1, 0, 0), 0);
    for (int bad : new int[] {-1, 3, 4, 31, 32, 63, Integer.MAX_VALUE, Integer.MIN_VALUE}) {
      Check.due("star " + bad, c.eye.shift(0, 1, bad, 0, 0), GAP);
    }
    for (int bad : new int[] {-1, 2, Integer.MAX_VALUE}) Check.due("what " + bad, c.eye.shift(0, 1, 0, bad, 0), GAP);
    Check.due("from -1", c.eye.shift(-1, 1, 0, 0, 0), GAP);
    Check.due("to 3", c.eye.shift(0, 3, 0, 0, 0), GAP);
    Check.due("not known yet", c.eye.shift(0, 1, 0, 0, -1), GAP);
  }

  private static void liars() {
    StarEye e = new StarEye();
    Check.due("alike", e.liar(5, 5, 5), -1);
    Check.due("third", e.liar(5, 5, 6), 2);
    Check.due("second", e.liar(5, 6, 5), 1);
    Check.due("first", e.liar(6, 5, 5), 0);
    Check.due("1 2 3: the first two are the nearest", e.liar(1, 2, 3), 2);
    Check.due("2 3 1: the first two", e.liar(2, 3, 1), 2);
    Check.due("1 3 2: first and third", e.liar(1, 3, 2), 1);
    Check.due("near to the third", e.liar(10, 0, 8), 1);
    Check.due("second and third", e.liar(-10, 7, 8), 0);
    Check.due("far apart", e.liar(Integer.MIN_VALUE, Integer.MAX_VALUE, 0), 0);
    Check.due("far apart", e.liar(Integer.MAX_VALUE, Integer.MIN_VALUE, -1), 0);
    Check.due("far apart", e.liar(Integer.MAX_VALUE, Integer.MIN_VALUE, 0), 1);
    Check.due("far apart", e.liar(Integer.MIN_VALUE, Integer.MIN_VALUE, Integer.MAX_VALUE), 2);
  }
}
