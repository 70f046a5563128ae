/** Terms 6: RULES, their units and how deep they go, what they tell of a PICTURE, TRUST and BELIEVED. */
final class EdgesOfRules {
  private static final String HERE = "Terms 6";
  private static final String ONE = "trust 1 when 1;";
  private static final int WHEN = "trust 1 when ".length();

  static void run() {
    length();
    atMostSix();
    eithers();
    ones();
    sums();
    units();
    signs();
    forty();
    deep();
    faults();
    quantities();
    namings();
    light();
    trust();
    believed();
  }

  private static void of(String sentence) {
    Edge.of(HERE, sentence);
  }

  private static String when(String e) {
    return "trust 1 when " + e + ";";
  }

  private static void good(String e) {
    Edge.goodRules(when(e), 1);
  }

  /** A FAULT 2 of an e, told from its beginning. */
  private static void bad(String e, int place) {
    Edge.badRules(when(e), 2, WHEN + place);
  }

  /** What e is, for a PICTURE of an object. */
  private static void is(Check c, String e, int value) {
    String number = value >= 0 ? "" + value : "0-" + -value;
    Edge.due("'" + e + "' is read", c.rules("trust 7 when (" + e + ")=" + number + ";"), 1);
    Edge.due("'" + e + "' is " + value, c.eye.trust(0, c.eye.about(3)), 7);
    Edge.due("'" + e + "' is read alone", c.rules("trust 7 when " + e + ";"), 1);
    Edge.due("'" + e + "' holds", c.eye.trust(0, c.eye.about(3)), value != 0 ? 7 : 0);
  }

  private static Check empty() {
    Check c = new Check();
    c.stars(8);
    return c;
  }

  private static void length() {
    of("RULES are a text of at most 400 bytes (none at first, and behind another BOOK):");
    Edge.due("none at first", new StarEye().about(2), 0);
    Edge.goodRules(ONE + " ".repeat(385), 1);
    Edge.goodRules(" ".repeat(385) + ONE, 1);
    Edge.badRules(ONE + " ".repeat(384) + "$", 1, 399);
    Check c = new Check();
    Edge.due("401 bytes", c.rules(ONE + " ".repeat(386)), -2);
    Edge.due("none are told", c.eye.about(2), 0);
    c.eye.end(0);
    c.rules(ONE + ONE);
    Edge.due("two", c.eye.about(2), 2);
    c.book("$");
    Edge.due("behind a FAULT of a BOOK", c.eye.about(2), 2);
    c.book("");
    Edge.due("behind another BOOK", c.eye.about(2), 0);
    Edge.due("their units", c.eye.about(5), 0);
    c.stars(8);
    Edge.due("TRUST by none", c.eye.trust(0, 0), 0);
  }

  private static void atMostSix() {
    of("rules = {trust N when e ;}, 6 at most.");
    Edge.goodRules("", 0);
    Edge.goodRules(" \n ", 0);
    for (int i = 1; i <= 6; i++) Edge.due("about(2)", Edge.goodRules(ONE.repeat(i), i).eye.about(2), i);
    Edge.badRules(ONE.repeat(7), 2, 90);
    Edge.goodRules(ONE.repeat(6) + "\n", 6);
    String[] tokens = {"trust", "5", "when", "1", ";"};
    for (int i = 1; i < tokens.length; i++) {
      String cut = String.join(" ", java.util.List.of(tokens).subList(0, i));
      Edge.badRules(cut, 2, cut.length());
      if (i < 4) Edge.badRules(cut + " ;", 2, cut.length() + 1);
    }
  }

  private static void eithers() {
    of("e = both {or both}.");
    Check c = empty();
    int[][] bits = {{0, 0}, {0, 1}, {1, 0}, {1, 1}};
    for (int[] b : bits) is(c, b[0] + " or " + b[1], b[0] | b[1]);
    is(c, "0 or 0 or 0 or 5", 1);
    is(c, "5 or 0", 1);
    is(c, "5", 5);
    bad("or 1", 0);
    bad("1 or", 4);
    bad("1 or or 1", 5);
    of("both = one {and one}.");
    for (int[] b : bits) is(c, b[0] + " and " + b[1], b[0] & b[1]);
    is(c, "5 and 6 and 7", 1);
    is(c, "5 and 6 and 0", 0);
    is(c, "1 or 0 and 0", 1);
    is(c, "0 and 0 or 1", 1);
    is(c, "(1 or 0) and 0", 0);
    bad("and 1", 0);
    bad("1 and", 5);
    bad("1 and or 1", 6);
  }

  private static void ones() {
    of("one = not one | sum [(< | > | =) sum].");
    Check c = empty();
    is(c, "not 0", 1);
    is(c, "not 1", 0);
    is(c, "not 9999", 0);
    is(c, "not not 5", 1);
    is(c, "not 1 = 2", 1);
    is(c, "not 0 and 0", 0);
    is(c, "not 1 or 1", 1);
    int[][] pairs = {{1, 2}, {2, 2}, {2, 1}};
    for (int[] p : pairs) {
      is(c, p[0] + "<" + p[1], p[0] < p[1] ? 1 : 0);
      is(c, p[0] + ">" + p[1], p[0] > p[1] ? 1 : 0);
      is(c, p[0] + "=" + p[1], p[0] == p[1] ? 1 : 0);
    }
    is(c, "0-1<0", 1);
    is(c, "0-1>0", 0);
    is(c, "1+1=2", 1);
    is(c, "2=1+1", 1);
    bad("1<2<3", 3);
    bad("1=1>0", 3);
    bad("1<", 2);
    bad("<1", 0);
    bad("1<=2", 2);
    bad("1<not 2", 2);
    bad("not", 3);
    bad("not and", 4);
  }

  private static void sums() {
    of("sum = unit {(+ | -) unit}.");
    Check c = empty();
    is(c, "1+2+3", 6);
    is(c, "9-3-2", 4);
    is(c, "9-(3-2)", 8);
    is(c, "1-2", -1);
    is(c, "0-9999-9999+9999", -9999);
    is(c, "9999+9999-9999-9999", 0);
    bad("-1", 0);
    bad("+1", 0);
    bad("1+", 2);
    bad("1+-1", 2);
    bad("1-not 1", 2);
    bad("1 1", 2);
    is(c, "1+(2-(3-(4-5)))", -1);
    is(c, "1-(2+(3<(4+(5-6))))", -1);
    is(c, "0 or 1 and 3=1+2", 1);
    is(c, "0 or 1 and 3=1+1", 0);
    is(c, "0 or (0 or (0 or 1 and 2<1+(1+1)))", 1);
    // the greatest and the least that 40 units come to
    c.rules("trust 3 when 9999" + "+9999".repeat(38) + ">9999;");
    Edge.due("40 times 9999", c.eye.trust(0, 0), 3);
    c.rules("trust 3 when 0" + "-9999".repeat(38) + "<0;");
    Edge.due("below 0", c.eye.trust(0, 0), 3);
  }

  private static void units() {
    of("unit = N | dots | named | namings | specks | smears | told | stretch | light | ( e ).");
    for (String unit : "0 9999 0000 dots named namings specks smears told stretch light (1)".split(" ")) good(unit);
    good("(1 or 1)");
    good("(not 1)");
    for (String word : "star at eye wide unit far noise off bar step needs lean room pair trust when and or x dot lights".split(" ")) bad(word, 0);
    bad("()", 1);
    bad("(1", 2);
    bad("1)", 1);
    bad("((1)", 4);
    bad("(1))", 3);
    bad("(1;)", 2);
    Check c = empty();
    is(c, "(5)", 5);
    is(c, "((5))+(1)", 6);
    is(c, "(1 or 1)+(2 and 2)+(3=3)+(not 0)", 4);
  }

  private static void signs() {
    of("TOKENS with the signs ( ) < > = +, too.");
    for (int sign = 0; sign < 256; sign++) {
      char one = (char) sign;
      boolean token = one >= 'a' && one <= 'z' || one >= '0' && one <= '9' || ";-()<>=+".indexOf(one) >= 0;
      if (sign != 32 && sign != 10) Edge.badRules("" + one, token ? 2 : 1, 0);
      if (sign != 32 && sign != 10 && !token) Edge.badRules("trust 1 when 1" + one, 1, 14);
    }
    Edge.goodRules("trust1 when(1<2)+(3>4)-(5=6)or(7);", 1);
    Edge.goodRules("trust 1 when ( 1 < 2 ) + ( 3 > 4 )\n- ( 5 = 6 ) or ( 7 ) ;", 1);
    Edge.badRules("trust 1when 1;", 1, 6);
    Edge.badRules("trust 1 when 1or 1;", 1, 13);
    Edge.badRules("trust 1 when 10000;", 1, 13);
    Edge.badRules("trust 1 when abcdefghi;", 1, 13);
    for (String sign : new String[] {"(", ")", "<", ">", "=", "+"}) Edge.badBook(sign, 1, 0);
  }

  private static void forty() {
    of("40 units in all;");
    Edge.due("40", Edge.goodRules(when("1" + "+1".repeat(39)), 1).eye.about(5), 40);
    Edge.badRules(when("1" + "+1".repeat(40)), 2, WHEN + 80);
    Edge.due("39 and a bracket's own", Edge.goodRules(when("1" + "+1".repeat(37) + "+(1)"), 1).eye.about(5), 40);
    Edge.badRules(when("1" + "+1".repeat(38) + "+(1)"), 2, WHEN + 79);
    Edge.badRules(when("1" + "+1".repeat(39) + "+(1)"), 2, WHEN + 80);
    String ten = when("1" + "+1".repeat(9));
    Edge.due("of four RULES", Edge.goodRules(ten.repeat(4), 4).eye.about(5), 40);
    Edge.badRules(ten.repeat(4) + when("1"), 2, 4 * ten.length() + WHEN);
    Edge.due("words are units, too", Edge.goodRules(when("dots" + "+dots".repeat(39)), 1).eye.about(5), 40);
    Edge.badRules(when("told" + "+told".repeat(40)), 2, WHEN + 200);
    Edge.due("not is none", Edge.goodRules(when("not 1" + " and not 1".repeat(19)), 1).eye.about(5), 20);
    Check c = empty();
    c.rules("trust 1 when 1" + "-1".repeat(39) + "+1;");
    Edge.due("a 41st leaves none", c.eye.about(2), 0);
    c.rules("trust 5 when 1" + "+1".repeat(38) + "=39;");
    Edge.due("the 40th counts", c.eye.trust(0, 0), 5);
  }

  /** Something within as many others as an outside of ( and n tells. */
  private static void within(String outside, String inside, int fault) {
    StringBuilder text = new StringBuilder();
    StringBuilder behind = new StringBuilder();
    for (char one : outside.toCharArray()) {
      text.append(one == '(' ? "(" : "not ");
      if (one == '(') behind.append(')');
    }
    String all = text + inside + behind;
    if (fault < 0) good(all);
    else bad(all, text.length() + fault);
  }

  private static void deep() {
    of("a unit ( e ), or a one behind not, within 6 others at most.");
    String[] six = {"((((((", "nnnnnn", "(n(n(n", "n(n(n(", "nnn(((", "(((nnn"};
    for (String outside : six) {
      within(outside, "(1)", -1);
      within(outside, "not 1", -1);
      within(outside, "(1) or (not 1)", outside.endsWith("n") ? -1 : 8);
      within(outside, "((1))", 1);
      within(outside, "(not 1)", 1);
      within(outside, "not (1)", 4);
      within(outside, "not not 1", 4);
    }
    String[] seven = {"(((((((", "nnnnnnn", "(n(n(n(", "n(n(n(n"};
    for (String outside : seven) {
      within(outside, "1", -1);
      within(outside, "dots", -1);
      within(outside, "(1)", 0);
      within(outside, "not 1", 0);
    }
    // one beside another is not within it
    good("(((((((1)))))))+(((((((1)))))))");
    good("not not not not not not not 1 and not not not not not not not 1");
    Check c = empty();
    is(c, "((((((5))))))", 5);
    c.rules("trust 7 when (((((((5)))))));");
    Edge.due("seven brackets", c.eye.trust(0, 0), 7);
    c.rules("trust 7 when not not not not not not not 0;");
    Edge.due("seven nots", c.eye.trust(0, 0), 7);
  }

  private static void faults() {
    of("FAULTS 1, 2 (a 7th rule: at its first word; a 41st unit, what is within 7 others: at its first TOKEN, or the not), 4 (trust 0 .. 99).");
    Edge.badRules("$", 1, 0);
    Edge.badRules(ONE + " $", 1, 16);
    Edge.badRules("trust 100 when $", 4, 6);
    Edge.badRules("trust $ when 1;", 1, 6);
    Edge.badRules("when", 2, 0);
    Edge.badRules("trust", 2, 5);
    Edge.badRules("trust ", 2, 6);
    Edge.badRules(ONE.repeat(6) + " trust", 2, 91);
    Edge.badRules(ONE.repeat(6) + " trust 100 when $", 2, 91);
    Edge.badRules(ONE.repeat(6) + " $", 1, 91);
    String forty = "trust 1 when 1" + "+1".repeat(39);
    Edge.badRules(forty + " + dots;", 2, forty.length() + 3);
    Edge.badRules(forty + " + ( $", 2, forty.length() + 3);
    Edge.badRules(forty + " + ;", 2, forty.length() + 3);
    Edge.badRules(forty + ";trust 100", 4, forty.length() + 7);
    Edge.badRules(when("((((((( ( $"), 2, WHEN + 8);
    Edge.badRules(when("((((((( not $"), 2, WHEN + 8);
    Edge.badRules("trust 0 when 1;trust 99 when 1;trust 100 when 1;", 4, 37);
    Edge.goodRules("trust 0 when 1;trust 99 when 1;trust 0099 when 1;", 3);
    Edge.badRules("trust 9999 when 1;", 4, 6);
    Edge.badRules("trust -1 when 1;", 2, 6);
    Edge.goodRules("trust 1 when 9999;", 1);
  }

  private static void quantities() {
    of("Of a PICTURE: dots, specks, smears: how many;");
    Check c = empty();
    is(c, "dots", 0);
    is(c, "specks", 0);
    is(c, "smears", 0);
    c = new Check();
    c.book("eye wide 16 unit 5 far 9;");
    c.picture("0000000000000000;9090909090909090;0000000000000000;9090909090909090;" + "0000000000000000;".repeat(12));
    is(c, "dots", 12);
    is(c, "smears", 0);
    c = new Check();
    for (int i = 0; i < 3; i++) c.stars(8, 0, 0, 9, 7, 7, 8, 0, 2 + i, 7, 4, 2, 6, 4, 3, 6, 4, 4, 6, 4, 5, 6);
    is(c, "dots", 4);
    is(c, "specks", 2);
    is(c, "smears", 1);
    c.eye.later(1);
    c.eye.untell(2);
    is(c, "specks", 0);
    c.rules("trust 7 when specks;");
    Edge.due("as known before", c.eye.trust(0, 0), 7);
  }

  private static void namings() {
    String eye = "eye wide 16 unit 5 far 9;off 0;bar 9;";
    Check one = Edge.seen(eye + EdgesOfBook.sky(100, 100, 140, 100, 100, 130), 16, 2, 2, 9, 10, 2, 8, 2, 8, 7, 14, 14, 3);
    Check four = Edge.seen(eye + EdgesOfBook.sky(100, 100, 140, 100, 140, 140, 100, 140), 16, 2, 2, 9, 10, 2, 8, 10, 10, 7, 2, 10, 6);
    Check none = empty();
    of("named: by how many POINTS its NAMINGS name (0 without any);");
    is(one, "named", 3);
    is(four, "named", 4);
    is(none, "named", 0);
    of("namings: how many;");
    is(one, "namings", 1);
    is(four, "namings", 4);
    is(none, "namings", 0);
    int[] places = new int[64];
    for (int i = 0; i < 32; i++) {
      places[2 * i] = 20 * (i % 5);
      places[2 * i + 1] = 20 * (i / 5);
    }
    Check many = Edge.seen("eye wide 16 unit 4 far 9;off 5;" + EdgesOfBook.sky(places), 16, 1, 1, 9, 7, 1, 8, 4, 6, 7);
    is(many, "namings", 200);
    of("told: 1 if it is TOLD, else 0;");
    is(one, "told", 1);
    is(four, "told", 0);
    is(none, "told", 0);
    of("stretch of the first NAMING (0 without);");
    is(one, "stretch", 1000);
    is(four, "stretch", 1000);
    is(none, "stretch", 0);
    Check wider = Edge.seen("eye wide 16 unit 5 far 9;off 5;" + EdgesOfBook.sky(100, 100, 144, 100, 100, 133), 16, 2, 2, 9, 10, 2, 8, 2, 8, 7);
    is(wider, "stretch", 1100);
    // the first NAMING is by STARS as they are seen, the second by the wider ones
    Check two = Edge.seen("eye wide 16 unit 5 far 9;off 5;" + EdgesOfBook.sky(100, 100, 140, 100, 100, 130, 500, 500, 544, 500, 500, 533), 16,
        2, 2, 9, 10, 2, 8, 2, 8, 7);
    is(two, "namings", 2);
    is(two, "stretch", 1000);
  }

  private static void light() {
    of("light: LIGHT of all DOTS.");
    is(empty(), "light", 0);
    is(Edge.seen("", 8, 0, 0, 2, 4, 4, 3), "light", 3);
    Check c = new Check();
    c.book("eye wide 16 unit 5 far 9;noise 0;");
    c.picture("9999999999999999;".repeat(16));
    is(c, "light", 2304);
    for (int i = 0; i < 3; i++) c.stars(16, 0, 0, 9, 15, 15, 7, 4, 4, 6, 5, 4, 6, 6, 4, 6, 7, 4, 6);
    c.rules("trust 7 when light = 40;");
    Edge.due("of SPECKS and SMEARS, too", c.eye.trust(3, 0), 7);
  }

  private static void trust() {
    of("TRUST: of the first rule whose e is not 0; 0 if none holds.");
    Check c = empty();
    String[] rules = {"", "trust 5 when 0;", "trust 5 when 1;", "trust 0 when 1;trust 9 when 1;", "trust 99 when 0;trust 9 when 1;trust 8 when 1;",
        "trust 9 when 0-1;", "trust 9 when 1-1;", "trust 9 when 1+1;", "trust 1 when 0;".repeat(5) + "trust 99 when 1;", "trust 1 when 0;".repeat(6)};
    int[] due = {0, 0, 5, 0, 9, 9, 0, 9, 99, 0};
    for (int i = 0; i < rules.length; i++) {
      c.rules(rules[i]);
      Edge.due("'" + rules[i] + "'", c.eye.trust(0, 0), due[i]);
    }
    // nothing of RULES that were there before is left behind shorter ones
    String[] longer = {"not not not 0", "1 and 0", "0 or 0", "1 < 0", "1 - 1", "not 1 + 1"};
    for (String one : longer) {
      for (int turn = 0; turn < 2; turn++) c.rules("trust 9 when " + one + ";trust 8 when " + one + ";");
      for (int turn = 0; turn < 2; turn++) {
        c.rules("trust 5 when 1;");
        Edge.due("behind '" + one + "', turn " + turn, c.eye.trust(0, 0), 5);
      }
    }
    c.rules("trust 6 when dots = 0;trust 7 when dots = 1;trust 8 when dots = 2;");
    c.stars(8, 1, 1, 9);
    c.stars(8, 1, 1, 9, 5, 5, 9);
    c.stars(8, 1, 1, 9, 5, 5, 9, 1, 5, 9);
    int[] of = {6, 7, 8, 0};
    for (int p = 0; p < 4; p++) Edge.due("of PICTURE " + p, c.eye.trust(p, 0), of[p]);
  }

  private static void believed() {
    of("BELIEVED: the PICTURE that counts with the most TRUST; of like ones the latest.");
    Check c = new Check();
    c.rules("trust 99 when light = 9;trust 98 when light = 8;trust 1 when light = 7;");
    int[] lights = {9, 8, 9, 7, 6, 3};
    int[] due = {0, 0, 2, 2, 2, 2};
    for (int p = 0; p < 6; p++) {
      c.stars(8, 1, 1, lights[p]);
      Edge.due("as known at " + p, c.eye.believed(p), due[p]);
      c.eye.later(1);
    }
    for (int p = 0; p < 6; p++) Edge.due("later, as known at " + p, c.eye.believed(p), due[p]);
    int[] gone = {2, 0, 1, 3, 5, 4};
    int[] left = {0, 1, 3, 5, 4, -1};
    for (int i = 0; i < 6; i++) {
      c.eye.untell(gone[i]);
      Edge.due("without " + gone[i], c.eye.believed(6), left[i]);
    }
    Edge.due("before all", c.eye.believed(-1), -1);
    Check full = new Check();
    for (int i = 0; i < 12; i++) full.stars(8);
    Edge.due("of twelve alike", full.eye.believed(0), 11);
  }
}
