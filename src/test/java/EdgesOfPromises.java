import java.util.Arrays;

/** Promises 1 to 13, and what the document says ahead of them: calls that are refused, and what they leave as it was. */
final class EdgesOfPromises {
  static final int MIN = Integer.MIN_VALUE;
  static final int MAX = Integer.MAX_VALUE;
  static final String EYE = "eye wide 16 unit 5 far 9;off 0;";
  static final String STARS = EdgesOfBook.sky(100, 100, 140, 100, 100, 130);

  interface Ask {
    long of(StarEye e, int number);
  }

  interface AskPicture {
    long of(StarEye e, int picture, int k);
  }

  static void run() {
    calls();
    constants();
    newObject();
    feed();
    end();
    book();
    picture();
    fullOfPictures();
    rules();
    fault();
    untell();
    later();
    speckless();
    dots();
    dot();
    point();
  }

  // ---- what all promises share

  /** PICTURES 0 and 1 TOLD at 5, 1 UNTOLD at 10, 2 TOLD at 10: a triangle of STARS and a SMEAR in each. */
  static Check three() {
    Check c = new Check();
    c.book(EYE + STARS);
    c.eye.later(5);
    int[] pixels = {2, 2, 9, 10, 2, 8, 2, 8, 7, 12, 12, 3, 13, 12, 3, 14, 12, 3, 15, 12, 3};
    for (int p = 0; p < 2; p++) c.stars(16, pixels);
    c.eye.later(5);
    c.eye.untell(1);
    for (int i = 0; i < 3; i++) pixels[3 * i]++;
    c.stars(16, pixels);
    return c;
  }

  /** Is answered for the PICTURES that count as known at k, and for no others. */
  static void counts(long none, AskPicture ask) {
    StarEye e = three().eye;
    int[][] known = {{MIN, 0}, {-1, 0}, {4, 0}, {5, 3}, {9, 3}, {10, 5}, {11, 5}, {MAX, 5}};
    for (int[] k : known) {
      for (int picture = 0; picture < 3; picture++) {
        boolean counts = (k[1] >> picture & 1) != 0;
        Edge.due("PICTURE " + picture + " as known at " + k[0] + " is answered for", ask.of(e, picture, k[0]) != none, counts);
      }
    }
    for (int picture : new int[] {MIN, -2, -1, 3, 4, 11, 12, 13, 31, 32, 64, MAX}) Edge.due("PICTURE " + picture, ask.of(e, picture, 10), none);
  }

  /** Is answered for 0 to the last, and for no other number. */
  static void numbers(String what, StarEye e, int last, long none, Ask ask) {
    for (int number = 0; number <= last; number++) Edge.due(what + " " + number + " is answered", ask.of(e, number) != none, true);
    for (int number : new int[] {MIN, MIN + 1, -2, -1, last + 1, last + 2, last + 256, 1 << 16, MAX - 1, MAX}) {
      Edge.due(what + " " + number, ask.of(e, number), none);
    }
  }

  // ---- ahead of the promises

  private static void calls() {
    Edge.of("What it is", "An object is used for at most 512 calls after it has been made; what later calls answer is free.");
    StarEye e = new StarEye();
    for (int call = 1; call < 512; call++) {
      if (call % 2 == 1) e.later(1);
      else e.about(3);
    }
    Edge.due("the 512th call", e.about(3), 256);
    // PICTURES told and gone back from as often as can be: a feed, the PICTURE, a question, back
    StarEye told = new StarEye();
    Check.put(told, "eye wide 4 unit 5 far 9;");
    told.book();
    told.image(0);
    int made = 8;
    for (; made + 4 <= 512; made += 4) {
      told.feed(0x30303030, 0x3b303030, 0x303b3030, 0x30303b39, 0x3030303b);
      Edge.due("a PICTURE at call " + (made + 2), told.picture(), 0);
      Edge.due("its LIGHT", told.dot(0, 0, 2, 0), 9);
      told.back(0);
    }
  }

  private static void constants() {
    Edge.of("The constants", "`NONE = -1`: There is none.");
    Edge.due("NONE", StarEye.NONE, -1);
    Edge.of("The constants", "`GAP = -1000000000000L`: No number is there.");
    Edge.due("GAP", StarEye.GAP, -1000000000000L);
  }

  private static void newObject() {
    Edge.of("Promise 1", "An empty BOOK, no PICTURES, no RULES.");
    StarEye e = new StarEye();
    for (int what = 0; what <= 6; what++) Edge.due("about(" + what + ")", e.about(what), 0);
    Edge.due("length", e.length(0, 0), -1);
    Edge.due("held", e.held(99999), 0);
    Edge.due("doubles", e.doubles(), 0);
    Edge.due("chosen", e.chosen(1), 0);
    Edge.due("looks", e.looks(0), 100);
    Edge.due("HOLES", e.looks(1), 100);
    Edge.due("dots", e.dots(0, 0, 0), -1);
    Edge.due("believed", e.believed(MAX), -1);
    Edge.due("trust", e.trust(0, MAX), -1);
    Edge.due("untell", e.untell(0), false);
    for (int box = 0; box < 3; box++) Edge.due("back", e.back(box), -1);
    Edge.due("a second object has nothing of a first one's", second(), 0);
  }

  private static int second() {
    three();
    StarEye e = new StarEye();
    return e.about(0) + e.about(1) + e.about(3);
  }

  // ---- the TAPE

  private static void feed() {
    Edge.of("Promise 2", "Twenty bytes come behind those on the TAPE, of each number the highest first: how many there are;");
    StarEye e = new StarEye();
    Edge.due("the first", e.feed(0x6e6f6973, 0x65203b20, 0x20202020, 0x20202020, 0x20202020), 20);
    Edge.due("the second", e.feed(0, 0, 0, 0, 0), 40);
    Edge.due("end", e.end(6), 6);
    Edge.due("behind those", e.feed(0x333b6f66, 0x66203b0a, 0x0a0a0a0a, 0x0a0a0a0a, 0x0a0a0a0a), 26);
    // "noise 3;off ;" and blanks
    Edge.due("book", e.book(), -1);
    Edge.due("its FAULT", e.fault(0), 2);
    Edge.due("its place", e.fault(1), 12);
    int[] bits = {0xff000000, 0x00ff0000, 0x0000ff00, 0x000000ff};
    for (int number = 0; number < 5; number++) {
      for (int at = 0; at < 4; at++) {
        int[] five = new int[5];
        Arrays.fill(five, 0x20202020);
        five[number] = 0x20202020 & ~bits[at] | '$' << (24 - 8 * at);
        e.feed(five[0], five[1], five[2], five[3], five[4]);
        e.book();
        Edge.due("byte " + at + " of number " + number, e.fault(1), 4 * number + at);
      }
    }
    Edge.of("Promise 2", "NONE, and nothing comes, if there would be more than 1,500.");
    full();
    for (int length = 1478; length <= 1483; length++) {
      e = new StarEye();
      for (int i = 0; i < 75; i++) e.feed(0x20202020, 0x20202020, 0x20202020, 0x20202020, 0x20202020);
      e.end(length);
      Edge.due("behind " + length, e.feed(0x24242424, 0x24242424, 0x24242424, 0x24242424, 0x24242424), length <= 1480 ? length + 20 : -1);
      Edge.due("bytes", e.about(4), length <= 1480 ? length + 20 : length);
      Edge.due("book", e.book(), length <= 1480 ? -1 : 0);
      Edge.due("the first that came", e.fault(1), length <= 1480 ? length : -1);
    }
  }

  private static void full() {
    Check c = three();
    for (int i = 1; i <= 75; i++) Edge.due("feed " + i, c.eye.feed(0x20202020, 0x20202020, 0x20202020, 0x20202020, 0x20202020), 20 * i);
    String before = Edge.all(c.eye);
    Edge.due("a 76th", c.eye.feed(0x24242424, MIN, MAX, -1, 0), -1);
    Edge.same("all stays", Edge.all(c.eye), before);
    Edge.due("nothing came", c.eye.book(), 0);
  }

  private static void end() {
    Edge.of("Promise 3", "The TAPE has its first n bytes: n;");
    StarEye e = new StarEye();
    Edge.due("0 of none", e.end(0), 0);
    Check.put(e, "off 1;bar 1;");
    for (int n : new int[] {12, 11, 6, 6}) {
      Edge.due("end " + n, e.end(n), n);
      Edge.due("bytes", e.about(4), n);
    }
    Edge.due("its first bytes", e.book(), 0);
    Check.put(e, "off 1;bar 1;");
    Edge.due("end 0", e.end(0), 0);
    Edge.due("bytes", e.about(4), 0);
    for (int i = 0; i < 75; i++) e.feed(0, 0, 0, 0, 0);
    Edge.due("end 1500", e.end(1500), 1500);
    Edge.due("end 1499", e.end(1499), 1499);
    Edge.of("Promise 3", "NONE, doing nothing, if it has not so many, or n is below 0.");
    for (int n : new int[] {1500, 1501, MAX, -1, MIN}) {
      Edge.due("end " + n, e.end(n), -1);
      Edge.due("bytes", e.about(4), 1499);
    }
    Check c = three();
    Check.put(c.eye, "off 1;");
    String before = Edge.all(c.eye);
    for (int n : new int[] {7, -1, MIN, MAX, 1500}) Edge.due("end " + n, c.eye.end(n), -1);
    Edge.same("all stays", Edge.all(c.eye), before);
    Edge.due("the TAPE, too", c.eye.book(), 0);
    Edge.due("end 1 of none", c.eye.end(1), -1);
  }

  // ---- the three texts

  /** An object with something of everything. */
  private static Check busy() {
    Check c = three();
    c.rules("trust 5 when dots;trust 6 when 1;");
    c.eye.speckless(3, 4, true);
    c.eye.speckless(15, 15, true);
    c.eye.image(1);
    return c;
  }

  private static void book() {
    Edge.of("Promise 4", "The TAPE (empty then) is THE BOOK (PICTURES, RULES, what is told of PIXELS are none then): how many STARS;");
    Check c = busy();
    int[] before = {3, 3, 2, 10, 0, 2, 2};
    for (int what = 0; what < 7; what++) Edge.due("about(" + what + ") before", c.eye.about(what), before[what]);
    Edge.due("book", c.book(EdgesOfBook.sky(1, 1, 50, 50)), 2);
    int[] behind = {2, 0, 0, 10, 0, 0, 0};
    for (int what = 0; what < 7; what++) Edge.due("about(" + what + ")", c.eye.about(what), behind[what]);
    Edge.due("a PIXEL may be told anew", c.eye.speckless(3, 4, true), true);
    Edge.due("lines that are not told", c.eye.speckless(8, 0, true), false);
    for (int picture = 0; picture < 3; picture++) {
      Edge.due("dots of " + picture, c.eye.dots(picture, 0, 10), -1);
      Edge.due("trust of " + picture, c.eye.trust(picture, 10), -1);
      Edge.due("untell " + picture, c.eye.untell(picture), false);
    }
    Edge.due("a PICTURE is the first one again", c.stars(8), 0);
    Edge.due("TRUST by no RULES", c.eye.trust(0, 10), 0);
    Edge.due("the same BOOK once more", c.book(EdgesOfBook.sky(1, 1, 50, 50)), 2);
    Edge.due("leaves no PICTURES", c.eye.about(1), 0);
    Edge.due("an empty one", c.book(""), 0);
    skies();
    Edge.of("Promise 4", "NONE: a FAULT (all stays).");
    String[] wrong = {"$", "x", "off 6;", "star a at 1 1 light 1;star a", "star a at 1 1 light 1;star b at 2 2 light 1;", EYE + STARS + "noise 3;x",
        "eye wide 4 unit 1 far 1;noise 9;off 5;bar 1;step 999 needs 1;lean 9 9;room star 1 pair 1;star a at 1 1 light 1"};
    for (String text : wrong) {
      c = busy();
      String all = withoutFault(c.eye);
      Edge.due("'" + text + "'", c.book(text), -1);
      Edge.due("the TAPE is empty", c.eye.about(4), 0);
      Edge.same("all stays behind '" + text + "'", withoutFault(c.eye), all);
      Edge.due("the box, too", c.eye.back(1), 3);
    }
  }

  /** What follows from the BOOK alone is asked of each one anew. */
  private static void skies() {
    String first = "step 500 needs 3;off 5;room star 10 pair 3;star a at 500 520 light 1;star b at 520 500 light 2;"
        + "star c at 500 480 light 3;star d at 480 500 light 4;";
    String second = "step 999 needs 1;off 1;star a at 999 999 light 9;star b at 0 999 light 8;star c at 500 500 light 7;";
    // how many LOOKS, HOLES, the first HOLE, CHOSEN and which, HELD in 22 bytes, DOUBLES, a LENGTH
    int[] ofFirst = {4, 3, 0, 3, 7, 1, 0, 282};
    int[] ofSecond = {4, 2, 0, 2, 3, 3, 1, 9990};
    Check c = new Check();
    for (int turn = 0; turn < 4; turn++) {
      c.book(turn % 2 == 0 ? first : second);
      int[] due = turn % 2 == 0 ? ofFirst : ofSecond;
      for (int what = 0; what < 3; what++) Edge.due("looks(" + what + ") of BOOK " + turn, c.eye.looks(what), due[what]);
      for (int what = 0; what < 2; what++) Edge.due("chosen(" + what + ") of BOOK " + turn, c.eye.chosen(what), due[3 + what]);
      Edge.due("held of BOOK " + turn, c.eye.held(22), due[5]);
      Edge.due("doubles of BOOK " + turn, c.eye.doubles(), due[6]);
      Edge.due("length of BOOK " + turn, c.eye.length(0, 1), due[7]);
    }
  }

  private static String withoutFault(StarEye e) {
    return Edge.all(e).replaceFirst("\\| \\S+ \\S+ \\|", "|");
  }

  private static void picture() {
    Edge.of("Promise 5", "The TAPE (empty then) is a PICTURE: its number;");
    Check c = new Check();
    for (int i = 0; i < 12; i++) {
      Edge.due("its number", c.stars(8, i % 8, 0, 9), i);
      Edge.due("the TAPE", c.eye.about(4), 0);
    }
    Edge.of("Promise 5", "NONE: a FAULT;");
    String[] wrong = {"", "$", "0", Check.rows(15), Check.rows(16) + "0", Check.rows(16).substring(1)};
    for (String text : wrong) {
      c = busy();
      String all = withoutFault(c.eye);
      Edge.due("a FAULT", c.picture(text), -1);
      Edge.due("is told", c.eye.fault(0) > 0, true);
      Edge.due("the TAPE is empty", c.eye.about(4), 0);
      Edge.same("none is told", withoutFault(c.eye), all);
      Edge.due("the next one's number", c.stars(16), 3);
    }
    Edge.of("Promise 5", "-2, and the TAPE stays: more than 400 bytes;");
    String rows = Check.rows(16);
    for (int length : new int[] {401, 402, 1480, 1500}) {
      c = busy();
      c.picture("$");
      Check.put(c.eye, rows + " ".repeat(length - rows.length()));
      String all = Edge.all(c.eye);
      Edge.due(length + " bytes", c.eye.picture(), -2);
      Edge.due("the TAPE", c.eye.about(4), length);
      Edge.same("all stays", Edge.all(c.eye), all);
      Edge.due("cut to 400", c.eye.end(400), 400);
      Edge.due("is taken", c.eye.picture(), 3);
    }
  }

  private static void fullOfPictures() {
    Edge.of("Promise 5", "-3, and the TAPE is empty: there are 12.");
    for (String text : new String[] {Check.rows(8), "", "$", Check.rows(8) + " ".repeat(328)}) {
      Check full = twelve();
      String all = Edge.all(full.eye);
      Edge.due("a 13th", full.picture(text), -3);
      Edge.same("all stays", Edge.all(full.eye), all);
      Edge.due("the FAULT is that of the RULES", full.eye.fault(0), 2);
    }
    Check c = twelve();
    Edge.due("401 bytes", c.picture(" ".repeat(401)), -2);
    Edge.due("the TAPE stays", c.eye.about(4), 401);
    c.eye.end(0);
    c.eye.later(1);
    c.eye.untell(4);
    Edge.due("UNTOLD ones are there, too", c.stars(4), -3);
    c.book("");
    Edge.due("behind another BOOK", c.stars(8), 0);
  }

  /** Twelve PICTURES, and RULES with a FAULT. */
  private static Check twelve() {
    Check c = new Check();
    c.book("eye wide 4 unit 5 far 9;");
    for (int i = 0; i < 11; i++) c.stars(4, i % 4, i / 4, 9);
    c.picture("$");
    Edge.due("a FAULT takes no room", c.stars(4, 3, 3, 8), 11);
    c.rules("x");
    return c;
  }

  private static void rules() {
    Edge.of("Promise 6", "The TAPE (empty then) is RULES: how many;");
    Check c = busy();
    for (int i = 6; i >= 0; i--) {
      Edge.due(i + " RULES", c.rules("trust 9 when 1;".repeat(i)), i);
      Edge.due("the TAPE", c.eye.about(4), 0);
      Edge.due("about(2)", c.eye.about(2), i);
      Edge.due("about(5)", c.eye.about(5), i);
      Edge.due("TRUST", c.eye.trust(0, 10), i > 0 ? 9 : 0);
    }
    Edge.due("PICTURES stay", c.eye.about(1), 3);
    Edge.of("Promise 6", "NONE: a FAULT (those there are stay);");
    String[] wrong = {"$", "trust", "trust 100 when 1;", "trust 9 when 1;trust 8 when 2;trust", "trust 9 when 1+1+1+1+1", "trust 1 when 1;".repeat(7)};
    for (String text : wrong) {
      c = busy();
      String all = withoutFault(c.eye);
      Edge.due("'" + text + "'", c.rules(text), -1);
      Edge.due("the TAPE is empty", c.eye.about(4), 0);
      Edge.same("all stays behind '" + text + "'", withoutFault(c.eye), all);
      Edge.due("their TRUST", c.eye.trust(0, 10), 5);
    }
    Edge.of("Promise 6", "-2, and the TAPE stays: more than 400 bytes.");
    for (int length : new int[] {401, 402, 1500}) {
      c = busy();
      c.rules("$");
      Check.put(c.eye, "trust 9 when 1;" + " ".repeat(length - 15));
      String all = Edge.all(c.eye);
      Edge.due(length + " bytes", c.eye.rules(), -2);
      Edge.same("all stays", Edge.all(c.eye), all);
      Edge.due("cut to 400", c.eye.end(400), 400);
      Edge.due("is taken", c.eye.rules(), 1);
      Edge.due("and is theirs", c.eye.trust(0, 10), 9);
    }
  }

  private static void faultIs(String what, StarEye e, int fault, int place) {
    Edge.due(what + ": fault(0)", e.fault(0), fault);
    Edge.due(what + ": fault(1)", e.fault(1), place);
  }

  private static void fault() {
    Edge.of("Promise 7", "Of the latest of the three that was not -2 or -3 what 0: its FAULT (0), 1: its place (NONE).");
    Check c = new Check();
    faultIs("none of the three", c.eye, 0, -1);
    c.book("  $");
    faultIs("a BOOK", c.eye, 1, 2);
    c.picture("0;");
    faultIs("a PICTURE", c.eye, 2, 1);
    c.rules("trust 100");
    faultIs("RULES", c.eye, 4, 6);
    c.picture(" ".repeat(401));
    faultIs("a PICTURE that was -2", c.eye, 4, 6);
    Edge.due("RULES that are -2", c.eye.rules(), -2);
    faultIs("RULES that were -2", c.eye, 4, 6);
    c.eye.end(0);
    c.stars(8);
    faultIs("a PICTURE without one", c.eye, 0, -1);
    c.book("star a at 1 1 light 1;star a");
    faultIs("a BOOK", c.eye, 3, 27);
    c.book("");
    faultIs("a BOOK without one", c.eye, 0, -1);
    c.book("star a at 1 1 light 1;star b at 1 1");
    faultIs("a BOOK", c.eye, 6, 32);
    c.rules("");
    faultIs("RULES without one", c.eye, 0, -1);
    for (int i = 0; i < 12; i++) c.stars(8);
    c.rules("x");
    Edge.due("a 13th PICTURE", c.picture("$$"), -3);
    faultIs("a PICTURE that was -3", c.eye, 2, 0);
    c.eye.later(1);
    c.eye.feed(0, 0, 0, 0, 0);
    c.eye.end(0);
    faultIs("other calls leave it", c.eye, 2, 0);
    Edge.of("Promise 7", "NONE for another what.");
    c.book("  $");
    for (int what : new int[] {MIN, -2, -1, 2, 3, MAX}) Edge.due("what " + what, c.eye.fault(what), -1);
  }

  // ---- PICTURES

  private static void untell() {
    Edge.of("Promise 8", "A PICTURE is UNTOLD: true;");
    Check c = new Check();
    for (int i = 0; i < 12; i++) c.stars(8, 1, 1, 9);
    for (int picture : new int[] {0, 5, 11}) {
      Edge.due("untell " + picture, c.eye.untell(picture), true);
      Edge.due("it does not count", c.eye.dots(picture, 0, 0), -1);
    }
    Edge.due("the others do", c.eye.dots(1, 0, 0), 1);
    Edge.due("about(1)", c.eye.about(1), 12);
    Edge.of("Promise 8", "false if it is so already, or there is none such.");
    c.eye.later(3);
    String all = Edge.all(c.eye);
    for (int picture : new int[] {0, 5, 11, -1, 12, 13, 32, MIN, MAX}) Edge.due("untell " + picture, c.eye.untell(picture), false);
    Edge.same("all stays", Edge.all(c.eye), all);
    Edge.due("it was UNTOLD then already", c.eye.dots(0, 0, 2), -1);
    c.book("");
    Edge.due("none is there", c.eye.untell(0), false);
    c.stars(8);
    Edge.due("the second is not", c.eye.untell(1), false);
    Edge.due("the first is", c.eye.untell(0), true);
  }

  private static void later() {
    Edge.of("Promise 9", "So much later (0 .. 1000): the TIME;");
    StarEye e = new StarEye();
    int time = 0;
    for (int by : new int[] {0, 1, 1000, 999, 0, 500}) {
      time += by;
      Edge.due("later " + by, e.later(by), time);
      Edge.due("the TIME", e.about(3), time);
    }
    Edge.of("Promise 9", "NONE, doing nothing, for another number, or if it would be above 100,000.");
    for (int by : new int[] {-1, 1001, -1000, MIN, MAX, MAX - 2499}) Edge.due("later " + by, e.later(by), -1);
    Edge.due("the TIME", e.about(3), 2500);
    for (int i = 0; i < 97; i++) e.later(1000);
    int[][] due = {{501, -1}, {1000, -1}, {499, 99999}, {2, -1}, {1000, -1}, {1, 100000}, {1, -1}, {1000, -1}, {0, 100000}};
    for (int[] one : due) Edge.due("at the end, later " + one[0], e.later(one[0]), one[1]);
    Edge.due("the TIME at the end", e.about(3), 100000);
    Check c = three();
    String all = Edge.all(c.eye);
    for (int by : new int[] {-1, 1001, MIN, MAX}) c.eye.later(by);
    Edge.same("all stays", Edge.all(c.eye), all);
    // a PICTURE told at the end
    Check end = new Check();
    for (int i = 0; i < 100; i++) end.eye.later(1000);
    end.stars(8, 1, 1, 9);
    Edge.due("as known then", end.eye.dots(0, 0, 100000), 1);
    Edge.due("as known before", end.eye.dots(0, 0, 99999), -1);
  }

  private static void speckless() {
    Edge.of("Promise 10", "A PIXEL (column, row) is no SPECK, whatever is there, or may be one: true;");
    for (int wide : new int[] {4, 8, 16}) {
      StarEye e = new StarEye();
      Check.put(e, "eye wide " + wide + " unit 5 far 9;");
      e.book();
      int told = 0;
      int step = wide == 16 ? 5 : 1;
      for (int column = 0; column < wide; column += step) {
        for (int row = 0; row < wide; row += step) {
          Edge.due(wide + " wide, " + column + ", " + row, e.speckless(column, row, true), true);
          told++;
          Edge.due("PIXELS", e.about(6), told);
        }
      }
      Edge.due("the last may be one", e.speckless(wide - 1, wide - 1, false), true);
      Edge.due("the first may be one", e.speckless(0, 0, false), true);
      Edge.due("PIXELS", e.about(6), told - 2);
    }
    Check c = new Check();
    c.eye.speckless(1, 1, true);
    for (int i = 0; i < 3; i++) c.stars(8, 1, 1, 9, 5, 6, 8);
    Edge.due("told ahead of the PICTURES", c.eye.dots(0, 2, 0), 1);
    c.eye.speckless(6, 5, true);
    Edge.due("column and row are two things", c.eye.dots(0, 2, 0), 1);
    c.eye.speckless(5, 6, true);
    Edge.due("no SPECKS", c.eye.dots(0, 2, 0), 0);
    c.eye.speckless(1, 1, false);
    Edge.due("one again", c.eye.dots(0, 2, 0), 1);
    Edge.of("Promise 10", "false, doing nothing, if it is so already, or there is none such.");
    c = three();
    c.eye.speckless(3, 4, true);
    String all = Edge.all(c.eye);
    Edge.due("told already", c.eye.speckless(3, 4, true), false);
    Edge.due("not told", c.eye.speckless(4, 3, false), false);
    for (int bad : new int[] {-1, 16, 17, 32, 35, 64, 256, MIN, MAX}) {
      for (boolean is : new boolean[] {true, false}) {
        Edge.due("column " + bad, c.eye.speckless(bad, 4, is), false);
        Edge.due("row " + bad, c.eye.speckless(3, bad, is), false);
      }
    }
    Edge.same("all stays", Edge.all(c.eye), all);
    for (int wide : new int[] {4, 8, 15}) {
      c = new Check();
      c.book("eye wide " + wide + " unit 5 far 9;");
      Edge.due("column " + wide, c.eye.speckless(wide, 0, true), false);
      Edge.due("row " + wide, c.eye.speckless(0, wide, true), false);
      Edge.due("none", c.eye.about(6), 0);
    }
  }

  private static void dots() {
    Edge.of("Promise 11", "How many DOTS (what 0), SMEARS (1), SPECKS (2), POINTS (3) a PICTURE has;");
    Check c = new Check();
    c.stars(8);
    for (int what = 0; what < 4; what++) Edge.due("nothing seen, what " + what, c.eye.dots(0, what, 0), 0);
    c.book("");
    for (int i = 0; i < 3; i++) c.stars(8, 0, 0, 9, 1, 0, 9, 2, 0, 9, 3, 0, 9, 7, 7, 5, 7, i, 4, 0, 7 - i, 3, 4, 4 + i, 3);
    int[] due = {5, 1, 1, 3};
    for (int what = 0; what < 4; what++) Edge.due("what " + what, c.eye.dots(1, what, 0), due[what]);
    Edge.of("Promise 11", "NONE if it does not count, or for another what.");
    for (int what = 0; what < 4; what++) {
      int asked = what;
      counts(-1, (e, picture, k) -> e.dots(picture, asked, k));
    }
    numbers("what", c.eye, 3, -1, (e, what) -> e.dots(0, what, 0));
  }

  private static void dot() {
    Edge.of("Promise 12", "Of a DOT what 0, 1: MIDDLE x, y, 2: LIGHT, 3: 1 a SMEAR, 2 a SPECK (if not a SMEAR), else 0, 4: its PIXELS;");
    Check c = new Check();
    // a SMEAR whose MIDDLE lies in a PIXEL where all have one, a SPECK, a POINT
    for (int i = 0; i < 3; i++) c.stars(8, 0, 0, 9, 1, 0, 9, 2, 0, 9, 3, 0, 9, 7, 7, 5, 6, 7, 4, 5, 2 + i, 8);
    int[][] due = {{20, 5, 36, 1, 4}, {70, 75, 9, 2, 2}, {55, 25, 8, 0, 1}};
    for (int dot = 0; dot < 3; dot++) {
      for (int what = 0; what < 5; what++) Edge.due("DOT " + dot + ", what " + what, c.eye.dot(0, dot, what, 0), due[dot][what]);
    }
    c.eye.speckless(7, 7, true);
    Edge.due("a SPECK no longer", c.eye.dot(0, 1, 3, 0), 0);
    c.eye.speckless(2, 0, true);
    Edge.due("a SMEAR all the same", c.eye.dot(0, 0, 3, 0), 1);
    Edge.of("Promise 12", "NONE if there is none such, or for another what.");
    numbers("DOT", c.eye, 2, -1, (e, dot) -> e.dot(0, dot, 0, 0));
    numbers("what", c.eye, 4, -1, (e, what) -> e.dot(0, 0, what, 0));
    for (int what = 0; what < 5; what++) {
      int asked = what;
      counts(-1, (e, picture, k) -> e.dot(picture, 0, asked, k));
    }
    Edge.due("of no DOTS", Edge.seen("", 8).eye.dot(0, 0, 0, 0), -1);
  }

  private static void point() {
    Edge.of("Promise 13", "The DOT that is a POINT;");
    Check c = three();
    for (int point = 0; point < 3; point++) Edge.due("POINT " + point + " behind a SMEAR", c.eye.point(0, point, 10), point + 1);
    Edge.of("Promise 13", "NONE if there is none such.");
    numbers("POINT", c.eye, 2, -1, (e, point) -> e.point(0, point, 10));
    counts(-1, (e, picture, k) -> e.point(picture, 0, k));
    Edge.due("of no POINTS", Edge.seen("", 8, 0, 0, 9, 1, 0, 9, 2, 0, 9, 3, 0, 9).eye.point(0, 0, 0), -1);
  }
}
