/** Promises 31 and 32: RULES that hold or not, TRUST, BELIEVED. */
final class RulesTest {
  private static final String BOOK = "eye wide 16 unit 5 far 100;off 0;star a at 100 100 light 1;star b at 140 100 light 1;"
      + "star c at 100 130 light 1;star d at 500 500 light 1;star e at 560 500 light 1;";

  public static void main(String[] args) {
    quantities();
    operators();
    order();
    believed();
    asKnown();
    Check.finish("RulesTest");
  }

  private static void holds(Check c, int picture, String when, boolean due) {
    if (c.rules("trust 7 when " + when + ";") != 1) Check.due("rules '" + when + "'", c.eye.fault(1), -1);
    Check.due("'" + when + "' of " + picture, c.eye.trust(picture, c.eye.about(3)), due ? 7 : 0);
  }

  private static void is(Check c, int picture, String sum, int value) {
    holds(c, picture, sum + "=" + value, true);
    holds(c, picture, sum + "=" + (value + 1), false);
  }

  private static void quantities() {
    Check c = new Check();
    c.book(BOOK);
    c.stars(16, 2, 2, 9, 10, 2, 8, 2, 8, 7, 12, 12, 9, 13, 12, 9, 14, 12, 9, 15, 12, 9);
    is(c, 0, "dots", 4);
    is(c, 0, "smears", 1);
    is(c, 0, "specks", 0);
    is(c, 0, "named", 3);
    is(c, 0, "namings", 1);
    is(c, 0, "told", 1);
    is(c, 0, "stretch", 1000);
    is(c, 0, "light", 9 + 8 + 7 + 36);
    c.stars(16);
    String[] all = {"dots", "smears", "specks", "named", "namings", "told", "stretch", "light"};
    for (String one : all) is(c, 1, one, 0);
    c.book("");
    for (int i = 0; i < 3; i++) c.stars(8, 1, 1, 9, 5, i, 5);
    is(c, 2, "specks", 1);
    is(c, 2, "dots", 2);
  }

  private static void operators() {
    Check c = new Check();
    c.stars(8, 1, 1, 9);
    String[] hold = {"1", "2", "9999", "not 0", "not not 5", "0 or 3", "3 or 0", "2 and 3", "1 < 2", "2 > 1", "2 = 2", "3 - 2 - 1 = 0",
        "3 - (2 - 1) = 2", "1 - 2 < 0", "0 - 1", "not 1 = 2", "(not 1) = 0", "not (1 = 2)", "1 or 0 and 0", "not 0 or 1", "not 1 or 1",
        "(3 and 5) = 1", "(3 or 5) = 1", "(not 0) = 1", "(not 7) = 0", "(5) = 5", "(1 < 2) + (2 < 1) + (3 = 3) = 2", "((4)) + 1 = 5",
        "light = 9 and dots = 1", "(1 < 2) = 1", "(2 > 1) = 1", "(2 = 2) = 1", "(2 < 1) = 0", "(1 > 2) = 0", "(1 = 2) = 0", "(dots + light) - 10 + 1", "not 1 and 1 or 1", "40 - 39 = dots"};
    for (String one : hold) holds(c, 0, one, true);
    String[] dont = {"0", "0000", "not 1", "not not 0", "0 or 0", "2 and 0", "0 and 2", "2 < 2", "2 > 2", "1 = 2", "1 - 1",
        "(1 or 0) and 0", "not (0 or 1)", "not 0 and 0", "(3 and 5) = 5", "0 < 0 or 0 > 0", "dots - 1", "1 < 0 - 1"};
    for (String one : dont) holds(c, 0, one, false);
  }

  private static void order() {
    Check c = new Check();
    c.stars(8, 1, 1, 9);
    Check.due("no rules", c.eye.trust(0, 0), 0);
    c.rules("trust 10 when dots > 1;trust 20 when dots > 0;trust 30 when 1;");
    Check.due("the first that holds", c.eye.trust(0, 0), 20);
    c.rules("trust 0 when 1;trust 30 when 1;");
    Check.due("trust 0", c.eye.trust(0, 0), 0);
    c.rules("trust 99 when 0;");
    Check.due("none holds", c.eye.trust(0, 0), 0);
    c.rules("trust 1 when 0;trust 2 when 0;trust 3 when 0;trust 4 when 0;trust 5 when 0;trust 6 when 1;");
    Check.due("the sixth", c.eye.trust(0, 0), 6);
    c.rules("trust 99 when");
    Check.due("a FAULT changes none", c.eye.trust(0, 0), 6);
    for (int bad : new int[] {-1, 1, 12, Integer.MAX_VALUE, Integer.MIN_VALUE}) Check.due("trust of " + bad, c.eye.trust(bad, 0), -1);
    Check.due("not known yet", c.eye.trust(0, -1), -1);
    c.eye.untell(0);
    Check.due("untold", c.eye.trust(0, 0), -1);
  }

  private static void believed() {
    Check c = new Check();
    Check.due("none", c.eye.believed(0), -1);
    c.stars(8, 1, 1, 9);
    c.stars(8, 1, 1, 5);
    c.stars(8, 1, 1, 9);
    c.stars(8, 1, 1, 4);
    Check.due("none holds: the latest", c.eye.believed(0), 3);
    c.rules("trust 50 when light = 9;trust 20 when light = 5;");
    Check.due("the most, the latest of them", c.eye.believed(0), 2);
    c.eye.later(1);
    c.eye.untell(2);
    Check.due("of those that count", c.eye.believed(1), 0);
    Check.due("as known before", c.eye.believed(0), 2);
    Check.due("before all", c.eye.believed(-1), -1);
    c.eye.untell(0);
    Check.due("then the next", c.eye.believed(1), 1);
    c.eye.untell(1);
    c.eye.untell(3);
    Check.due("none counts", c.eye.believed(1), -1);
    Check.due("as known before", c.eye.believed(0), 2);
  }

  private static void asKnown() {
    Check c = new Check();
    c.rules("trust 9 when specks;trust 3 when dots;");
    for (int i = 0; i < 3; i++) {
      c.stars(8, 1, 1, 9);
      c.eye.later(1);
    }
    Check.due("at 1", c.eye.trust(0, 1), 3);
    Check.due("at 2", c.eye.trust(0, 2), 9);
    c.eye.speckless(1, 1, true);
    Check.due("no speck", c.eye.trust(0, 2), 3);
  }
}
