/** Promises 1 to 7: a new object, the TAPE, the three texts and their FAULTS. */
final class TextsTest {
  public static void main(String[] args) {
    newObject();
    tape();
    goodBooks();
    bookFaults();
    bookRanges();
    bookLeavesNothing();
    goodPictures();
    pictureFaults();
    pictureLimits();
    goodRules();
    ruleFaults();
    ruleLimits();
    faultOfTheLatest();
    Check.finish("TextsTest");
  }

  private static void newObject() {
    StarEye eye = new StarEye();
    for (int what = 0; what <= 6; what++) Check.due("new about(" + what + ")", eye.about(what), 0);
    Check.due("new fault(0)", eye.fault(0), 0);
    Check.due("new fault(1)", eye.fault(1), -1);
    Check.due("new trust", eye.trust(0, 0), -1);
    Check.due("new believed", eye.believed(0), -1);
    Check.due("new back", eye.back(0), -1);
    Check.due("new length", eye.length(0, 0), -1);
    Check.due("new speckless at the edge", eye.speckless(7, 7, true), true);
    Check.due("new speckless behind it", eye.speckless(8, 7, true), false);
    Check.due("new looks", eye.looks(0), 100);
    Check.due("NONE", StarEye.NONE, -1);
    Check.due("GAP", StarEye.GAP, -1000000000000L);
  }

  private static void tape() {
    StarEye eye = new StarEye();
    for (int i = 1; i <= 75; i++) Check.due("feed " + i, eye.feed(i, i, i, i, i), 20 * i);
    Check.due("feed too much", eye.feed(1, 2, 3, 4, 5), -1);
    Check.due("about(4) full", eye.about(4), 1500);
    Check.due("end 1481", eye.end(1481), 1481);
    Check.due("feed over the end", eye.feed(1, 2, 3, 4, 5), -1);
    Check.due("end 1480", eye.end(1480), 1480);
    Check.due("feed to the end", eye.feed(1, 2, 3, 4, 5), 1500);
    Check.due("end -1", eye.end(-1), -1);
    Check.due("end 1501", eye.end(1501), -1);
    Check.due("end 1500", eye.end(1500), 1500);
    Check.due("end 0", eye.end(0), 0);
    Check.due("end 1 of none", eye.end(1), -1);
    Check.due("about(4)", eye.about(4), 0);
    Check.due("feed after end", eye.feed(-1, Integer.MIN_VALUE, 0, 0, 0), 20);
    Check.due("book of bytes above 127", eye.book(), -1);
    Check.due("fault of them", eye.fault(0), 1);
    // the highest byte of each number comes first: "off 3;" and blanks
    eye.feed(0x6f666620, 0x333b2020, 0x20202020, 0x0a0a0a0a, 0x20202020);
    Check.due("book by bytes", eye.book(), 0);
  }

  private static void goodBooks() {
    Check c = new Check();
    Check.due("empty book", c.book(""), 0);
    Check.due("blank book", c.book(" \n \n"), 0);
    Check.due("a star", c.book("star a at 0 0 light 1;"), 1);
    Check.due("tight", c.book("star a at 0 0 light 1;star b at20 0 light99;bar100;lean-1-99;"), 2);
    Check.due("no blanks behind words", c.book("eye wide4 unit1 far1;noise0;off0;bar1;step100 needs1;room star1 pair1;"), 0);
    Check.due("parted signs", c.book("lean - 5\n-\n5 ;\nnoise\n9;"), 0);
    Check.due("leading zeros", c.book("star a at 0000 0999 light 0001;noise 0009;"), 1);
    Check.due("names of 8", c.book("star abcdefgh at 1 1 light 1;star abcdefgi at 99 1 light 1;"), 2);
    Check.due("names that own words begin", c.book("star sta at 1 1 light 1;star stars at 99 1 light 1;star nots at 1 99 light 1;"), 3);
    Check.due("at 20", c.book("star a at 0 0 light 1;star b at 12 16 light 1;"), 2);
    Check.due("eye's lines behind stars", c.book("star a at 1 1 light 1;eye wide 16 unit 9 far 999;star b at 50 1 light 1;"), 2);
    StringBuilder all = new StringBuilder();
    for (int i = 0; i < 32; i++) all.append("star ").append(name(i)).append(" at ").append(i * 25).append(" 0 light 5;");
    Check.due("32 stars", c.book(all.toString()), 32);
    Check.due("about(0)", c.eye.about(0), 32);
    int before = all.length();
    all.append("noise 1; star zz");
    c.badBook(all.toString(), 2, before + 9);
    Check.due("about(0) stays", c.eye.about(0), 32);
  }

  private static String name(int i) {
    return "x" + (char) ('a' + i / 26) + (char) ('a' + i % 26);
  }

  private static void bookFaults() {
    Check c = new Check();
    c.badBook("$", 1, 0);
    c.badBook("  A", 1, 2);
    c.badBook("\t", 1, 0);
    c.badBook("star", 2, 4);
    c.badBook("star  \n", 2, 7);
    c.badBook("at", 2, 0);
    c.badBook("foo", 2, 0);
    c.badBook("trust 1 when 1;", 2, 0);
    c.badBook("7", 2, 0);
    c.badBook(";", 2, 0);
    c.badBook("-", 2, 0);
    c.badBook("star 5", 2, 5);
    c.badBook("star star", 2, 5);
    c.badBook("star not at 1 1 light 1;", 2, 5);
    c.badBook("star stretch at 1 1 light 1;", 2, 5);
    c.badBook("star abcdefghi at 1 1 light 1;", 1, 5);
    c.badBook("abcdefghi", 1, 0);
    c.badBook("star a to", 2, 7);
    c.badBook("star a at b", 2, 10);
    c.badBook("star a at -1", 2, 10);
    c.badBook("star a at 12345", 1, 10);
    c.badBook("star a at 00001 1", 1, 10);
    c.badBook("star a at 12x 1", 1, 10);
    c.badBook("star a at 1 1light 1;", 1, 12);
    c.badBook("star a at 1 1 light 1,", 1, 21);
    c.badBook("star a at 1 1 light 1 1;", 2, 22);
    c.badBook("star a at 1 1 light 1;star a at 2000", 3, 27);
    c.badBook("star a at 1 1 light 1;star b at 20 5", 6, 32);
    c.badBook("star a at 1 1 light 1;star b at 20 1000", 4, 35);
    c.badBook("star a at 1 1 light 1;star b at 1000 1", 4, 32);
    c.badBook("star a at 1 1 light 1;star b at 20 5x", 1, 35);
    c.badBook("star a at 1 1 light 1;star b at 12 17 light 1;", 6, 32);
    c.badBook("noise 1;noise", 2, 8);
    c.badBook("eye wide 8 unit 5 far 40;off 1;bar 1;eye", 2, 37);
    c.badBook("step 100 needs 3;step", 2, 17);
    c.badBook("lean 0 0;lean", 2, 9);
    c.badBook("room star 1 pair 1;room", 2, 19);
    c.badBook("off 1;off", 2, 6);
    c.badBook("bar 1;bar", 2, 6);
    c.badBook("noise 1", 2, 7);
    c.badBook("noise -1;", 2, 6);
    c.badBook("bar 12a;", 1, 4);
    c.badBook("bar 12345;", 1, 4);
    c.badBook("bar <;", 1, 4);
    c.badBook("lean --1 1;", 2, 6);
    c.badBook("lean 1 - ;", 2, 9);
    c.badBook("lean 1;", 2, 6);
    c.badBook("lean - 100 1;", 4, 5);
    c.badBook("lean 1 -100;", 4, 7);
    c.badBook("lean 100 1;", 4, 5);
    c.badBook("lean -100x 1;", 1, 6);
    c.badBook("room pair", 2, 5);
  }

  private static void bookRanges() {
    ranges("noise ", ";", 0, 9);
    ranges("off ", ";", 0, 5);
    ranges("bar ", ";", 1, 9999);
    ranges("step ", " needs 1;", 100, 999);
    ranges("step 100 needs ", ";", 1, 6);
    ranges("eye wide ", " unit 5 far 40;", 4, 16);
    ranges("eye wide 8 unit ", " far 40;", 1, 9);
    ranges("eye wide 8 unit 5 far ", ";", 1, 999);
    ranges("room star ", " pair 1;", 1, 99);
    ranges("room star 1 pair ", ";", 1, 99);
    ranges("lean -", " 0;", 0, 99);
    ranges("lean 0 ", ";", 0, 99);
    ranges("star a at ", " 0 light 1;", 0, 999);
    ranges("star a at 0 ", " light 1;", 0, 999);
    ranges("star a at 0 0 light ", ";", 1, 99);
  }

  private static void ranges(String before, String behind, int least, int most) {
    Check c = new Check();
    int stars = before.startsWith("star") ? 1 : 0;
    int place = before.endsWith("-") ? before.length() - 1 : before.length();
    Check.due(before + least, c.book(before + least + behind), stars);
    Check.due(before + most, c.book(before + most + behind), stars);
    if (least > 0) c.badBook(before + (least - 1) + behind, 4, place);
    if (most < 9999) c.badBook(before + (most + 1) + behind, 4, place);
  }

  private static void bookLeavesNothing() {
    Check c = new Check();
    c.book("star a at 1 1 light 1;");
    c.rules("trust 5 when 1;");
    c.stars(8, 1, 1, 9);
    c.eye.later(7);
    c.eye.speckless(1, 1, true);
    c.eye.image(1);
    Check.due("a FAULT", c.book("bar 0;"), -1);
    Check.due("stars stay", c.eye.about(0), 1);
    Check.due("pictures stay", c.eye.about(1), 1);
    Check.due("rules stay", c.eye.about(2), 1);
    Check.due("pixels stay", c.eye.about(6), 1);
    Check.due("trust stays", c.eye.trust(0, 0), 5);
    Check.due("the box stays", c.eye.back(1), 1);
    Check.due("another book", c.book("noise 1;"), 0);
    Check.due("no stars", c.eye.about(0), 0);
    Check.due("no pictures", c.eye.about(1), 0);
    Check.due("no rules", c.eye.about(2), 0);
    Check.due("no units", c.eye.about(5), 0);
    Check.due("no pixels", c.eye.about(6), 0);
    Check.due("the time goes on", c.eye.about(3), 7);
    Check.due("the box is empty", c.eye.back(1), -1);
    Check.due("the pixel may be told again", c.eye.speckless(1, 1, true), true);
  }

  private static void goodPictures() {
    Check c = new Check();
    c.book("eye wide 4 unit 1 far 1;");
    Check.due("tight", c.picture("0000;0000;0000;0000;"), 0);
    Check.due("blanks", c.picture("\n 00 00\n;0 0 0 0 ;0000;00\n00; \n"), 1);
    Check.due("digits", c.picture("0123;4567;8901;2345;"), 2);
    Check.due("about(1)", c.eye.about(1), 3);
    Check.due("fault(0)", c.eye.fault(0), 0);
    Check.due("fault(1)", c.eye.fault(1), -1);
  }

  private static void pictureFaults() {
    Check c = new Check();
    c.book("eye wide 4 unit 1 far 1;");
    c.badPicture("", 2, 0);
    c.badPicture("  ", 2, 2);
    c.badPicture("000", 2, 3);
    c.badPicture("000;", 2, 3);
    c.badPicture(";", 2, 0);
    c.badPicture("00000", 2, 4);
    c.badPicture("0000;;", 2, 5);
    c.badPicture("a", 1, 0);
    c.badPicture("0000;000-", 1, 8);
    c.badPicture("00000a", 2, 4);
    c.badPicture("0000;0000;0000;0000", 2, 19);
    c.badPicture("0000;0000;0000;0000 ", 2, 20);
    c.badPicture("0000;0000;0000;", 2, 15);
    c.badPicture("0000;0000;0000;0000;0", 2, 20);
    c.badPicture("0000;0000;0000;0000; ;", 2, 21);
    c.badPicture("0000;0000;0000;0000; x", 1, 21);
    Check.due("none told", c.eye.about(1), 0);
    Check wide = new Check();
    wide.book("eye wide 16 unit 1 far 1;");
    Check.due("16 wide", wide.stars(16), 0);
    wide.badPicture(Check.rows(15), 2, 15);
  }

  private static void pictureLimits() {
    Check c = new Check();
    c.book("eye wide 4 unit 1 far 1;");
    String rows = "0000;0000;0000;0000;";
    String blanks = " ".repeat(380);
    Check.due("400 bytes", c.picture(rows + blanks), 0);
    Check.due("401 bytes", c.picture(rows + blanks + " "), -2);
    Check.due("the TAPE stays", c.eye.about(4), 401);
    Check.due("fault stays", c.eye.fault(0), 0);
    c.eye.end(20);
    Check.due("cut", c.eye.picture(), 1);
    for (int i = 2; i < 12; i++) Check.due("picture " + i, c.picture(rows), i);
    c.eye.untell(0);
    c.badRules("x", 2, 0);
    Check.due("a 13th", c.picture(rows), -3);
    Check.due("the TAPE is empty", c.eye.about(4), 0);
    Check.due("a wrong 13th", c.picture("x"), -3);
    Check.due("fault(0) is that of rules", c.eye.fault(0), 2);
    Check.due("a long 13th", c.picture(rows + blanks + " "), -2);
    Check.due("the TAPE stays", c.eye.about(4), 401);
    Check.due("about(1)", c.eye.about(1), 12);
  }

  private static void goodRules() {
    Check c = new Check();
    Check.due("no rules", c.rules(""), 0);
    Check.due("blanks", c.rules(" \n"), 0);
    Check.due("one", c.rules("trust 0 when 1;"), 1);
    Check.due("units", c.eye.about(5), 1);
    Check.due("two", c.rules("trust 99 when dots>3 and not told or(stretch-1000<5);trust 1 when light=9999+smears;"), 2);
    Check.due("units", c.eye.about(5), 2 + 1 + 4 + 3);
    Check.due("all quantities", c.rules("trust 1 when dots+named+namings+specks+smears+told+stretch+light;"), 1);
    Check.due("units", c.eye.about(5), 8);
    Check.due("six", c.rules("trust 1 when 1;".repeat(6)), 6);
    Check.due("about(2)", c.eye.about(2), 6);
    Check.due("400 bytes", c.rules("trust 1 when 1;" + " ".repeat(385)), 1);
    Check.due("401 bytes", c.rules("trust 1 when 1;" + " ".repeat(386)), -2);
    Check.due("the TAPE stays", c.eye.about(4), 401);
    Check.due("rules stay", c.eye.about(2), 1);
    c.eye.end(0);
    Check.due("none again", c.rules(""), 0);
    Check.due("about(2)", c.eye.about(2), 0);
  }

  private static void ruleFaults() {
    Check c = new Check();
    c.rules("trust 3 when 2 - 1;");
    c.badRules("$", 1, 0);
    c.badRules("trust", 2, 5);
    c.badRules("when", 2, 0);
    c.badRules("star", 2, 0);
    c.badRules("trust x", 2, 6);
    c.badRules("trust 100 when 1;", 4, 6);
    c.badRules("trust -1 when 1;", 2, 6);
    c.badRules("trust 10000 when 1;", 1, 6);
    c.badRules("trust 1when 1;", 1, 6);
    c.badRules("trust 1 1;", 2, 8);
    c.badRules("trust 1 when", 2, 12);
    c.badRules("trust 1 when ;", 2, 13);
    c.badRules("trust 1 when foo", 2, 13);
    c.badRules("trust 1 when star;", 2, 13);
    c.badRules("trust 1 when 1", 2, 14);
    c.badRules("trust 1 when 1<2<3;", 2, 16);
    c.badRules("trust 1 when 1<not 2;", 2, 15);
    c.badRules("trust 1 when 1+not 2;", 2, 15);
    c.badRules("trust 1 when -1;", 2, 13);
    c.badRules("trust 1 when 1 and;", 2, 18);
    c.badRules("trust 1 when or 1;", 2, 13);
    c.badRules("trust 1 when and;", 2, 13);
    c.badRules("trust 1 when when;", 2, 13);
    c.badRules("trust 1 when at;", 2, 13);
    c.badRules("trust 1 when 1 or 1 or;", 2, 22);
    c.badRules("trust 1 when 1 and 1 1;", 2, 21);
    c.badRules("trust 1 when (1 or (2;", 2, 21);
    c.badRules("trust 1 when not;", 2, 16);
    c.badRules("trust 1 when 1 <;", 2, 16);
    c.badRules("trust 1 when 1 +;", 2, 16);
    c.badRules("trust 1 when (1;", 2, 15);
    c.badRules("trust 1 when 1);", 2, 14);
    c.badRules("trust 1 when ();", 2, 14);
    c.badRules("trust 1 when 1 1;", 2, 15);
    c.badRules("trust 1 when 1>=2;", 2, 15);
    c.badRules("trust 1 when dots*2;", 1, 17);
    c.badRules("trust 1 when dots>5and told;", 1, 18);
    c.badRules("trust 1 when abcdefghi;", 1, 13);
    Check.due("rules stay", c.eye.about(2), 1);
    Check.due("units stay", c.eye.about(5), 2);
  }

  private static void ruleLimits() {
    Check c = new Check();
    String six = "trust 1 when 1;".repeat(6);
    c.badRules(six + "trust", 2, 90);
    c.badRules(six + " %", 1, 91);
    c.badRules(six + "  7", 2, 92);
    Check.due("40 units", c.rules("trust 1 when 1" + "+1".repeat(39) + ";"), 1);
    Check.due("about(5)", c.eye.about(5), 40);
    c.badRules("trust 1 when 1" + "+1".repeat(39) + "-2;", 2, 13 + 40 * 2);
    c.badRules("trust 1 when 1" + "+1".repeat(39) + "-(2);", 2, 13 + 40 * 2);
    c.badRules("trust 1 when 1" + "+1".repeat(38) + "-(2);", 2, 13 + 39 * 2 + 1);
    c.badRules("trust 1 when 1" + "+1".repeat(38) + "-();", 2, 13 + 39 * 2 + 1);
    Check.due("units of two rules", c.rules("trust 1 when 1" + "+1".repeat(19) + ";trust 1 when 1" + "+1".repeat(19) + ";"), 2);
    c.badRules("trust 1 when 1" + "+1".repeat(19) + ";trust 1 when 1" + "+1".repeat(20) + ";", 2, 13 + 40 + 13 + 40);
    Check.due("7 brackets", c.rules("trust 1 when (((((((1)))))));"), 1);
    Check.due("about(5)", c.eye.about(5), 8);
    c.badRules("trust 1 when ((((((((1))))))));", 2, 20);
    Check.due("7 nots", c.rules("trust 1 when " + "not ".repeat(7) + "1;"), 1);
    c.badRules("trust 1 when " + "not ".repeat(8) + "1;", 2, 13 + 28);
    c.badRules("trust 1 when " + "not ".repeat(7) + "(1);", 2, 13 + 28);
    c.badRules("trust 1 when (not(not(not(not 1))));", 2, 26);
    Check.due("7 of both", c.rules("trust 1 when (not(not(not(1)))) and (not(not(not(1))));"), 1);
    Check.due("no more than that: a sum behind not", c.rules("trust 1 when " + "not ".repeat(7) + "1 + 2 < 3 and " + "not ".repeat(7) + "4;"), 1);
  }

  private static void faultOfTheLatest() {
    Check c = new Check();
    c.badBook("  x", 2, 2);
    Check.due("a good one", c.rules("trust 1 when 1;"), 1);
    Check.due("fault(0)", c.eye.fault(0), 0);
    Check.due("fault(1)", c.eye.fault(1), -1);
    c.badPicture("x", 1, 0);
    Check.due("too long", c.rules(" ".repeat(401)), -2);
    Check.due("fault(0) of the picture", c.eye.fault(0), 1);
    Check.due("fault(1) of the picture", c.eye.fault(1), 0);
    Check.due("fault(2)", c.eye.fault(2), -1);
    Check.due("fault(-1)", c.eye.fault(-1), -1);
    Check.due("book takes long texts", c.eye.book(), 0);
    Check.due("fault(0)", c.eye.fault(0), 0);
  }
}
