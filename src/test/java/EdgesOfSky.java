/** Terms 5: LOOKS and HOLES, CHOSEN, HELD, DOUBLES: what follows from THE BOOK alone. */
final class EdgesOfSky {
  private static final String HERE = "Terms 5";

  static void run() {
    looks();
    sees();
    holes();
    chosen();
    leastNumber();
    byTrying();
    spent();
    held();
    heldInOrder();
    doubles();
  }

  private static void of(String sentence) {
    Edge.of(HERE, sentence);
  }

  private static StarEye with(String book) {
    Check c = new Check();
    if (c.book(book) < 0) Edge.due("book '" + book + "'", c.eye.fault(1), -1);
    return c.eye;
  }

  private static String sky(int... places) {
    return EdgesOfBook.sky(places);
  }

  private static void looks() {
    of("LOOKS of the BOOK: all points (step * i, step * j) from 0 to 999.");
    int[][] due = {{100, 10}, {101, 10}, {111, 10}, {112, 9}, {124, 9}, {125, 8}, {142, 8}, {143, 7}, {166, 7}, {167, 6}, {199, 6}, {200, 5}, {249, 5},
        {250, 4}, {333, 4}, {334, 3}, {499, 3}, {500, 2}, {501, 2}, {998, 2}, {999, 2}};
    for (int[] one : due) Edge.due("step " + one[0], with("step " + one[0] + " needs 1;").looks(0), one[1] * one[1]);
    // a STAR in the last LOOK of all, by steps that reach 999 and by one that does not
    Edge.due("333 reaches 999", with("step 333 needs 1;eye wide 8 unit 5 far 1;" + sky(999, 999)).looks(1), 15);
    Edge.due("334 does not", with("step 334 needs 1;eye wide 8 unit 5 far 1;" + sky(999, 999)).looks(1), 9);
    Edge.due("the first one is 0", with("step 334 needs 1;eye wide 8 unit 5 far 1;" + sky(0, 0)).looks(1), 8);
    Edge.due("100 reaches 900", with("step 100 needs 1;eye wide 8 unit 5 far 1;" + sky(900, 900)).looks(1), 99);
  }

  private static void sees() {
    of("A LOOK SEES a STAR (as told, without lean) no farther than far.");
    int[][] due = {{50, 30, 40, 1}, {49, 30, 40, 0}, {50, 50, 0, 1}, {49, 50, 0, 0}, {50, 0, 50, 1}, {50, 36, 35, 0}, {50, 35, 35, 1}, {50, -30, -40, 1},
        {49, -40, 30, 0}, {50, 30, 41, 0}, {1, 1, 0, 1}, {1, 1, 1, 0}, {1, 0, 0, 1}, {250, 150, 200, 1}};
    for (int[] one : due) {
      for (String lean : new String[] {"", "lean 99 99;", "lean -99 0;"}) {
        String book = "step 500 needs 1;" + lean + "eye wide 8 unit 5 far " + one[0] + ";" + sky(500 + one[1], 500 + one[2]);
        Edge.due(book, with(book).looks(1), 4 - one[3]);
        Edge.due(book + " chosen", with(book).chosen(0), one[3]);
      }
    }
    // far 999: from one corner all but the one across
    Edge.due("999", with("step 999 needs 1;eye wide 8 unit 5 far 999;" + sky(0, 0)).looks(1), 1);
    Edge.due("998", with("step 999 needs 1;eye wide 8 unit 5 far 998;" + sky(0, 0)).looks(1), 3);
  }

  private static void holes() {
    of("HOLES: LOOKS that see fewer than needs.");
    int[] around = {500, 500, 520, 500, 480, 500, 500, 520, 500, 480, 520, 520, 480, 480};
    for (int needs = 1; needs <= 6; needs++) {
      for (int stars = needs - 1; stars <= needs + 1; stars++) {
        String book = "step 500 needs " + needs + ";" + sky(java.util.Arrays.copyOf(around, 2 * stars));
        Edge.due("needs " + needs + ", sees " + stars, with(book).looks(1), stars < needs ? 4 : 3);
      }
    }
    Edge.due("no STARS", with("step 500 needs 1;").looks(1), 4);
    Edge.due("no HOLES", with("step 999 needs 1;" + sky(0, 0, 0, 999, 999, 0, 999, 999)).looks(1), 0);
  }

  private static void due(String book, int count, int which) {
    StarEye e = with(book);
    Edge.due(book + " how many", e.chosen(0), count);
    Edge.due(book + " which", e.chosen(1), which);
  }

  private static void chosen() {
    of("CHOSEN: the fewest STARS so that each LOOK sees needs of them, or, if it is a HOLE, all that it sees; of like ones the least number (as bits).");
    due("", 0, 0);
    due(sky(550, 550), 0, 0);
    String around = sky(500, 500, 520, 500, 480, 500, 500, 520, 500, 480);
    for (int needs = 1; needs <= 6; needs++) {
      int all = Math.min(needs, 5);
      due("step 500 needs " + needs + ";" + around, all, (1 << all) - 1);
    }
    // what no LOOK sees is never chosen
    due("step 500 needs 1;" + sky(250, 250, 500, 500), 1, 2);
    due("step 500 needs 1;" + sky(0, 0, 500, 0, 0, 500, 500, 500), 4, 15);
    // all 16, each seen from a LOOK of its own; then needs 2: all of them are HOLES
    int[] places = new int[32];
    for (int i = 0; i < 16; i++) {
      places[2 * i] = 100 * (i % 4);
      places[2 * i + 1] = 100 * (i / 4);
    }
    due("step 100 needs 1;" + sky(places), 16, 65535);
    due("step 100 needs 2;" + sky(places), 16, 65535);
    // a HOLE that sees one of two that another LOOK could choose
    String two = "eye wide 8 unit 5 far 500;" + sky(0, 500, 0, 999);
    due("step 999 needs 1;" + two, 1, 1);
    due("step 999 needs 2;" + two, 2, 3);
  }

  private static void leastNumber() {
    // one that both LOOKS see, though its number is higher than the two others' together
    due("step 999 needs 1;eye wide 8 unit 5 far 500;" + sky(0, 0, 0, 999, 0, 500), 1, 4);
    due("step 999 needs 1;eye wide 8 unit 5 far 499;" + sky(0, 0, 0, 999, 0, 500), 2, 3);
    // alike: any one of five; any two; the least number has the lowest bits
    due("step 500 needs 2;" + sky(100, 250, 500, 500, 520, 500, 480, 500), 2, 6);
    // (0, 0) sees 0 and 3, (0, 999) sees 1 and 3, (999, 999) sees 1 and 2: 0 and 1 is 3, 1 and 3 is 10, 2 and 3 is 12
    String ring = "step 999 needs 1;eye wide 8 unit 5 far 500;" + sky(30, 0, 500, 999, 999, 970, 0, 500);
    due(ring, 2, 3);
    // without 0: 1 and 2 is 6 by new numbers, 0 and 2, 1 and 2
    due("step 999 needs 1;eye wide 8 unit 5 far 500;" + sky(500, 999, 999, 970, 0, 500), 2, 5);
    // the highest of 16 alone does what the others do together
    int[] places = new int[32];
    for (int i = 0; i < 15; i++) {
      places[2 * i] = i < 8 ? 0 : 25;
      places[2 * i + 1] = i < 4 ? 25 * i : i < 8 ? 999 - 25 * (i - 4) : 300 + 25 * (i - 8);
    }
    places[30] = 0;
    places[31] = 500;
    due("step 999 needs 1;eye wide 8 unit 5 far 500;" + sky(places), 1, 1 << 15);
  }

  /** Skies of 12 STARS, and for each of them all 4096 choices. */
  private static void byTrying() {
    StarEye e = null;
    for (int seed = 0; seed < 40; seed++) {
      // ten BOOKS one behind the other by one object
      if (seed % 10 == 0) e = new StarEye();
      int[] places = new int[24];
      for (int i = 0; i < 12; i++) {
        // no two of them have the same third of 40 across, so that none are nearer than 20
        places[2 * i] = 80 * i + seed * (i + 3) % 37;
        places[2 * i + 1] = (seed * 131 + i * i * 97 + i * 211) % 1000;
      }
      int step = 150 + 37 * (seed % 7);
      int far = 120 + 60 * (seed % 5);
      int needs = 1 + seed % 4;
      String book = "step " + step + " needs " + needs + ";eye wide 8 unit 5 far " + far + ";" + sky(places);
      Check.put(e, book);
      Edge.due(book, e.book(), 12);
      int best = best(places, step, far, needs);
      Edge.due(book + " how many", e.chosen(0), Integer.bitCount(best));
      Edge.due(book + " which", e.chosen(1), best);
    }
  }

  private static int best(int[] places, int step, int far, int needs) {
    java.util.Set<Integer> sees = new java.util.HashSet<>();
    for (int x = 0; x <= 999; x += step) {
      for (int y = 0; y <= 999; y += step) {
        int bits = 0;
        for (int i = 0; 2 * i < places.length; i++) {
          int away = (places[2 * i] - x) * (places[2 * i] - x) + (places[2 * i + 1] - y) * (places[2 * i + 1] - y);
          if (away <= far * far) bits |= 1 << i;
        }
        sees.add(bits);
      }
    }
    int best = (1 << places.length / 2) - 1;
    for (int tried = best - 1; tried >= 0; tried--) {
      boolean enough = Integer.bitCount(tried) <= Integer.bitCount(best);
      for (int bits : sees) enough &= Integer.bitCount(bits & tried) >= Math.min(needs, Integer.bitCount(bits));
      if (enough) best = tried;
    }
    return best;
  }

  private static void spent() {
    of("SPENT if there are more than 16 STARS.");
    StringBuilder book = new StringBuilder("step 999 needs 1;");
    for (int i = 0; i < 32; i++) {
      book.append("star ").append(EdgesOfBook.name(i)).append(" at ").append(30 * i).append(" 0 light 5;");
      StarEye e = with(book.toString());
      Edge.due((i + 1) + " STARS, how many", e.chosen(0), i < 16 ? 1 : -2);
      Edge.due((i + 1) + " STARS, which", e.chosen(1), i < 16 ? 1 : -2);
    }
  }

  private static void heldDue(String book, int[]... pairs) {
    StarEye e = with(book);
    for (int[] pair : pairs) Edge.due(book + " held " + pair[0], e.held(pair[0]), pair[1]);
  }

  private static void held() {
    of("HELD in so many bytes: the most STARS, those of most light first (of like ones by numbers), so that room's star for each and pair for "
        + "each two of them no farther apart than 2 * far are no more.");
    String room = "room star 10 pair 3;";
    heldDue(room, new int[] {0, 0}, new int[] {99999, 0});
    heldDue(room + sky(0, 0), new int[] {0, 0}, new int[] {9, 0}, new int[] {10, 1}, new int[] {99999, 1});
    // 80 is 2 * far, if it is not told
    heldDue(room + sky(0, 0, 80, 0), new int[] {19, 1}, new int[] {20, 1}, new int[] {22, 1}, new int[] {23, 2});
    heldDue(room + sky(0, 0, 81, 0), new int[] {19, 1}, new int[] {20, 2});
    heldDue(room + sky(0, 0, 48, 64), new int[] {22, 1}, new int[] {23, 2});
    heldDue(room + sky(0, 0, 48, 65), new int[] {19, 1}, new int[] {20, 2});
    heldDue(room + "eye wide 8 unit 5 far 499;" + sky(0, 0, 998, 0), new int[] {22, 1}, new int[] {23, 2});
    heldDue(room + "eye wide 8 unit 5 far 499;" + sky(0, 0, 999, 0), new int[] {19, 1}, new int[] {20, 2});
    // far 999: all pairs of any sky
    heldDue(room + "eye wide 8 unit 5 far 999;" + sky(0, 0, 999, 999, 0, 999), new int[] {22, 1}, new int[] {23, 2}, new int[] {38, 2}, new int[] {39, 3});
    // 32 STARS: 32 * 99 and 496 * 99
    int[] places = new int[64];
    for (int i = 0; i < 32; i++) {
      places[2 * i] = 30 * i;
      places[2 * i + 1] = 500;
    }
    heldDue("room star 99 pair 99;eye wide 8 unit 5 far 999;" + sky(places), new int[] {52271, 31}, new int[] {52272, 32}, new int[] {99999, 32});
    heldDue("room star 1 pair 99;eye wide 8 unit 5 far 1;" + sky(places), new int[] {0, 0}, new int[] {31, 31}, new int[] {32, 32});
  }

  /** All by one object: the order of one BOOK's STARS is not that of the next. */
  private static void heldInOrder() {
    Check c = new Check();
    for (int turn = 0; turn < 2; turn++) heldInOrder(c);
  }

  private static void heldDue(Check c, String book, int[]... pairs) {
    Edge.due(book, c.book(book) > 0, true);
    for (int[] pair : pairs) Edge.due(book + " held " + pair[0], c.eye.held(pair[0]), pair[1]);
  }

  private static void heldInOrder(Check c) {
    // by LIGHT: 2, 0, 3, 1; only 2 and 1 are a pair
    String book = "room star 10 pair 3;star a at 0 0 light 50;star b at 500 20 light 1;star c at 500 0 light 99;star d at 0 500 light 2;";
    heldDue(c, book, new int[] {10, 1}, new int[] {20, 2}, new int[] {30, 3}, new int[] {42, 3}, new int[] {43, 4});
    // of like ones by numbers: 0 and 1 are a pair, so two want 23; were 2 ahead of 1, they would want 20
    String like = "room star 10 pair 3;star a at 0 0 light 7;star b at 20 0 light 7;star c at 500 0 light 7;";
    heldDue(c, like, new int[] {22, 1}, new int[] {23, 2}, new int[] {32, 2}, new int[] {33, 3});
    // 1, 2, 0 by LIGHT; 0 and 1 are a pair
    String last = "room star 10 pair 3;star a at 0 0 light 50;star b at 20 0 light 99;star c at 500 0 light 60;";
    heldDue(c, last, new int[] {19, 1}, new int[] {20, 2}, new int[] {32, 2}, new int[] {33, 3});
    // 3, 2, 1, 0 by LIGHT; 2 and 3 are a pair
    String turned = "room star 10 pair 3;star a at 0 0 light 1;star b at 500 500 light 2;star c at 500 0 light 3;star d at 520 0 light 4;";
    heldDue(c, turned, new int[] {22, 1}, new int[] {23, 2}, new int[] {32, 2}, new int[] {33, 3}, new int[] {42, 3}, new int[] {43, 4});
    // one more LIGHT goes ahead
    String more = "room star 10 pair 3;star a at 0 0 light 7;star b at 20 0 light 7;star c at 500 0 light 8;";
    heldDue(c, more, new int[] {19, 1}, new int[] {20, 2}, new int[] {32, 2}, new int[] {33, 3});
    // one that would want less behind one that wants more is not taken ahead of it
    String dear = "room star 10 pair 9;star a at 0 0 light 9;star b at 20 0 light 8;star c at 500 0 light 7;";
    heldDue(c, dear, new int[] {28, 1}, new int[] {29, 2}, new int[] {38, 2}, new int[] {39, 3});
  }

  private static void doubles() {
    of("DOUBLE: a pair of STARS so that for at least needs other STARS LENGTHS of these to both differ by no more than 10 * off.");
    Edge.due("no STARS", with("step 100 needs 1;").doubles(), 0);
    Edge.due("one", with("step 100 needs 1;" + sky(0, 0)).doubles(), 0);
    Edge.due("two have no others", with("step 100 needs 1;" + sky(0, 0, 20, 0)).doubles(), 0);
    // STAR 2 sees 0 at 350 and 1 at 400; 0 and 1 are 531 apart
    String three = sky(135, 100, 100, 140, 100, 100);
    Edge.due("50 by off 5", with("step 100 needs 1;off 5;" + three).doubles(), 1);
    Edge.due("50 by off 4", with("step 100 needs 1;off 4;" + three).doubles(), 0);
    // 349 and 400 differ by 51
    Edge.due("51 by off 5", with("step 100 needs 1;off 5;" + sky(108, 134, 100, 60, 100, 100)).doubles(), 0);
    Edge.due("0 by off 0", with("step 100 needs 1;off 0;" + sky(130, 100, 100, 130, 100, 100)).doubles(), 1);
    Edge.due("1 by off 0", with("step 100 needs 1;off 0;" + sky(140, 103, 100, 60, 100, 100)).doubles(), 0);
    // on a line through the middle all others are as far from 0 as from 1
    for (int others = 0; others <= 6; others++) {
      int[] places = new int[4 + 2 * others];
      System.arraycopy(new int[] {400, 500, 600, 500}, 0, places, 0, 4);
      for (int i = 0; i < others; i++) {
        places[4 + 2 * i] = 500;
        places[5 + 2 * i] = 137 + 137 * i;
      }
      for (int needs = 1; needs <= 6; needs++) {
        StarEye e = with("step 100 needs " + needs + ";off 0;" + sky(places));
        Edge.due(others + " others, needs " + needs, e.doubles(), brute(places, needs, 0));
        if (others < 2) Edge.due(others + " others, needs " + needs, e.doubles(), others >= needs ? 1 : 0);
      }
    }
    int[] all = new int[64];
    for (int i = 0; i < 32; i++) {
      all[2 * i] = 25 * (i % 6);
      all[2 * i + 1] = 25 * (i / 6);
    }
    for (int needs = 1; needs <= 6; needs++) {
      StarEye e = with("step 100 needs " + needs + ";off 1;" + sky(all));
      Edge.due("32 STARS, needs " + needs, e.doubles(), brute(all, needs, 1));
    }
  }

  private static int brute(int[] places, int needs, int off) {
    int pairs = 0;
    int stars = places.length / 2;
    for (int a = 0; a < stars; a++) {
      for (int b = a + 1; b < stars; b++) {
        int alike = 0;
        for (int other = 0; other < stars; other++) {
          if (other != a && other != b && Math.abs(Edge.length(places, other, a) - Edge.length(places, other, b)) <= 10 * off) alike++;
        }
        if (alike >= needs) pairs++;
      }
    }
    return pairs;
  }
}
