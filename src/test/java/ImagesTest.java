/** Promises 33 to 35: images kept in boxes, gone back to, and what there is to tell. */
final class ImagesTest {
  public static void main(String[] args) {
    boxes();
    whatIsKept();
    wrongBoxes();
    another();
    about();
    Check.finish("ImagesTest");
  }

  private static void boxes() {
    Check c = new Check();
    Check.due("nothing kept", c.eye.back(0), -1);
    Check.due("an empty image", c.eye.image(0), 0);
    c.stars(8, 1, 1, 9);
    Check.due("image 1", c.eye.image(1), 1);
    c.stars(8, 2, 2, 9);
    Check.due("image 2", c.eye.image(2), 2);
    Check.due("back 1", c.eye.back(1), 1);
    Check.due("about(1)", c.eye.about(1), 1);
    Check.due("1 is gone", c.eye.dots(1, 0, 0), -1);
    Check.due("the next is 1", c.stars(8, 3, 3, 8), 1);
    Check.due("its light", c.eye.dot(1, 0, 2, 0), 8);
    Check.due("back 2", c.eye.back(2), 2);
    Check.due("the other 1", c.eye.dot(1, 0, 2, 0), 9);
    Check.due("back 0", c.eye.back(0), 0);
    Check.due("another first one", c.stars(8, 6, 6, 4), 0);
    Check.due("its light", c.eye.dot(0, 0, 2, 0), 4);
    c.eye.back(1);
    Check.due("the first one that was kept", c.eye.dot(0, 0, 2, 0), 9);
    Check.due("back 2 once more", c.eye.back(2), 2);
    c.eye.untell(0);
    Check.due("kept anew", c.eye.image(0), 2);
    c.eye.back(2);
    Check.due("not untold there", c.eye.dots(0, 0, 0), 1);
    c.eye.back(0);
    Check.due("untold here", c.eye.dots(0, 0, 0), -1);
    for (int i = 2; i < 12; i++) c.stars(8);
    Check.due("full", c.stars(8), -3);
    c.eye.back(1);
    Check.due("room again", c.stars(8), 1);
  }

  private static void whatIsKept() {
    Check c = new Check();
    c.book("star a at 1 1 light 1;");
    c.rules("trust 5 when 1;");
    c.eye.later(10);
    c.stars(8, 1, 1, 9);
    c.eye.speckless(3, 3, true);
    c.eye.image(0);
    c.eye.later(10);
    c.eye.speckless(4, 4, true);
    c.eye.speckless(3, 3, false);
    c.rules("trust 6 when 1;trust 7 when 1;");
    Check.put(c.eye, "abc");
    Check.due("back", c.eye.back(0), 1);
    Check.due("the time", c.eye.about(3), 10);
    Check.due("pixels", c.eye.about(6), 1);
    Check.due("3 3 is told", c.eye.speckless(3, 3, true), false);
    Check.due("4 4 is not", c.eye.speckless(4, 4, false), false);
    Check.due("rules stay", c.eye.about(2), 2);
    Check.due("trust", c.eye.trust(0, 10), 6);
    Check.due("the TAPE stays", c.eye.about(4), 3);
    Check.due("stars stay", c.eye.about(0), 1);
    c.eye.speckless(0, 0, true);
    c.eye.back(0);
    Check.due("the box is not changed by what comes behind", c.eye.about(6), 1);
  }

  private static void wrongBoxes() {
    StarEye e = new StarEye();
    for (int bad : new int[] {-1, 3, Integer.MAX_VALUE, Integer.MIN_VALUE}) {
      Check.due("image " + bad, e.image(bad), -1);
      Check.due("back " + bad, e.back(bad), -1);
    }
    e.later(5);
    Check.due("back of nothing", e.back(2), -1);
    Check.due("does nothing", e.about(3), 5);
  }

  private static void another() {
    Check c = new Check();
    c.stars(8);
    for (int box = 0; box < 3; box++) c.eye.image(box);
    c.book("$");
    Check.due("a FAULT leaves them", c.eye.back(2), 1);
    c.book("");
    for (int box = 0; box < 3; box++) Check.due("empty " + box, c.eye.back(box), -1);
  }

  private static void about() {
    Check c = new Check();
    c.book("star a at 1 1 light 1;star b at 99 1 light 1;");
    c.rules("trust 1 when dots + 1;");
    c.stars(8);
    c.stars(8);
    c.stars(8);
    c.eye.later(44);
    Check.put(c.eye, "hello");
    for (int i = 0; i < 6; i++) c.eye.speckless(i, 0, true);
    int[] due = {2, 3, 1, 44, 5, 2, 6};
    for (int what = 0; what < 7; what++) Check.due("about(" + what + ")", c.eye.about(what), due[what]);
    for (int bad : new int[] {-1, 7, Integer.MAX_VALUE, Integer.MIN_VALUE}) Check.due("about(" + bad + ")", c.eye.about(bad), -1);
  }
}
