/** What the tests share: an object fed with texts, and answers compared with those that are due. */
final class Check {
  final StarEye eye = new StarEye();
  private static int wrong = 0;
  private static int asked = 0;

  static void due(String what, long got, long want) {
    asked++;
    if (got != want) {
      wrong++;
      if (wrong <= 40) System.out.println(what + " answered " + got + ", due is " + want);
    }
  }

  static void due(String what, boolean got, boolean want) {
    due(what, got ? 1 : 0, want ? 1 : 0);
  }

  static void finish(String test) {
    System.out.println(test + ": " + asked + " answers, " + wrong + " wrong");
    if (wrong != 0) System.exit(1);
  }

  /** Puts a text on the TAPE of an eye, behind what is there; false if it has no room. */
  static boolean put(StarEye eye, String text) {
    int before = eye.about(4);
    for (int at = 0; at < text.length(); at += 20) {
      int[] words = new int[5];
      for (int i = 0; i < 20; i++) {
        int sign = at + i < text.length() ? text.charAt(at + i) & 255 : 0;
        words[i / 4] = words[i / 4] << 8 | sign;
      }
      if (eye.feed(words[0], words[1], words[2], words[3], words[4]) == StarEye.NONE) return false;
    }
    eye.end(before + text.length());
    return true;
  }

  int book(String text) {
    put(eye, text);
    return eye.book();
  }

  int picture(String text) {
    put(eye, text);
    return eye.picture();
  }

  int rules(String text) {
    put(eye, text);
    return eye.rules();
  }

  /** A PICTURE without light but for some PIXELS, each told as column, row, light. */
  int stars(int wide, int... pixels) {
    return picture(rows(wide, pixels));
  }

  static String rows(int wide, int... pixels) {
    char[] lights = new char[wide * (wide + 1)];
    for (int i = 0; i < lights.length; i++) lights[i] = i % (wide + 1) == wide ? ';' : '0';
    for (int i = 0; i + 2 < pixels.length; i += 3) {
      lights[pixels[i + 1] * (wide + 1) + pixels[i]] = (char) ('0' + pixels[i + 2]);
    }
    return new String(lights);
  }

  private void refused(String call, String text, int answer, int fault, int place) {
    due(call + " '" + text + "'", answer, StarEye.NONE);
    due(call + " '" + text + "': fault(0)", eye.fault(0), fault);
    due(call + " '" + text + "': fault(1)", eye.fault(1), place);
    due(call + " '" + text + "': the TAPE", eye.about(4), 0);
  }

  void badBook(String text, int fault, int place) {
    refused("book", text, book(text), fault, place);
  }

  void badPicture(String text, int fault, int place) {
    refused("picture", text, picture(text), fault, place);
  }

  void badRules(String text, int fault, int place) {
    refused("rules", text, rules(text), fault, place);
  }
}
