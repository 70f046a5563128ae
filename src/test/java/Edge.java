import java.nio.file.Files;
import java.nio.file.Path;
import java.util.ArrayList;
import java.util.LinkedHashMap;
import java.util.List;
import java.util.Map;

/** A sentence of the document that names a boundary, and the answers that show that it holds there. */
final class Edge {
  private static final Map<String, List<String>> CITED = new LinkedHashMap<>();
  private static String where = "";
  private static String sentence = "";
  private static int asked = 1;

  /** From here on all answers are those of this sentence; the document is asked at the end whether it stands there. */
  static void of(String newWhere, String newSentence) {
    mustHaveAsked();
    where = newWhere;
    sentence = newSentence;
    asked = 0;
    CITED.computeIfAbsent(where, x -> new ArrayList<>()).add(plain(sentence));
  }

  private static void mustHaveAsked() {
    if (asked == 0) Check.due(where + ", '" + sentence + "': answers asked for", 0, 1);
  }

  static void due(String what, long got, long want) {
    asked++;
    Check.due(where + ", '" + sentence + "': " + what, got, want);
  }

  static void due(String what, boolean got, boolean want) {
    due(what, got ? 1 : 0, want ? 1 : 0);
  }

  static void same(String what, String got, String want) {
    if (!got.equals(want)) System.out.println("is   " + got + "\nwas  " + want);
    due(what, got.equals(want), true);
  }

  // ---- texts

  private static void taken(Check c, String text, int answer, int want) {
    due("'" + text + "'", answer, want);
    due("'" + text + "': its FAULT", c.eye.fault(0), 0);
    due("'" + text + "': its place", c.eye.fault(1), -1);
  }

  private static void refused(Check c, String text, int answer, int fault, int place) {
    due("'" + text + "'", answer, -1);
    due("'" + text + "': its FAULT", c.eye.fault(0), fault);
    due("'" + text + "': its place", c.eye.fault(1), place);
    due("'" + text + "': the TAPE is empty then", c.eye.about(4), 0);
  }

  static Check goodBook(String text, int stars) {
    Check c = new Check();
    taken(c, text, c.book(text), stars);
    return c;
  }

  static void badBook(String text, int fault, int place) {
    Check c = new Check();
    refused(c, text, c.book(text), fault, place);
  }

  static Check goodRules(String text, int rules) {
    Check c = new Check();
    taken(c, text, c.rules(text), rules);
    return c;
  }

  static void badRules(String text, int fault, int place) {
    Check c = new Check();
    refused(c, text, c.rules(text), fault, place);
  }

  static void goodPicture(String book, String text) {
    Check c = new Check();
    c.book(book);
    taken(c, text, c.picture(text), 0);
  }

  static void badPicture(String book, String text, int fault, int place) {
    Check c = new Check();
    c.book(book);
    refused(c, text, c.picture(text), fault, place);
    due("'" + text + "': none is told", c.eye.about(1), 0);
  }

  /** An object with a BOOK and a PICTURE of single PIXELS, each told as column, row, light. */
  static Check seen(String book, int wide, int... pixels) {
    Check c = new Check();
    if (c.book(book) < 0) due("book '" + book + "'", c.eye.fault(1), -1);
    c.stars(wide, pixels);
    return c;
  }

  /** The LENGTH of two STARS, worked out by trying. */
  static int length(int[] places, int a, int b) {
    int x = 10 * (places[2 * a] - places[2 * b]);
    int y = 10 * (places[2 * a + 1] - places[2 * b + 1]);
    int length = 0;
    for (int bit = 1 << 14; bit > 0; bit >>= 1) if ((length + bit) * (length + bit) <= x * x + y * y) length += bit;
    return length;
  }

  /** All that can be asked without changing anything, as one text. */
  static String all(StarEye e) {
    StringBuilder text = new StringBuilder();
    for (int what = 0; what < 7; what++) text.append(e.about(what)).append(' ');
    text.append("| ").append(e.fault(0)).append(' ').append(e.fault(1));
    text.append(" | ").append(e.looks(0)).append(' ').append(e.looks(2)).append(' ').append(e.chosen(1));
    text.append(' ').append(e.held(40)).append(' ').append(e.doubles()).append(' ').append(e.length(0, 1));
    int time = e.about(3);
    int pictures = e.about(1);
    for (int p = 0; p < pictures; p++) {
      text.append(" | ").append(p).append(' ').append(e.dots(p, 0, time - 1));
      for (int what = 0; what < 4; what++) text.append(' ').append(e.dots(p, what, time));
      text.append(' ').append(e.dot(p, 0, 0, time)).append(' ').append(e.trust(p, time)).append(' ').append(e.namings(p, 0, time));
    }
    return text.append(" | ").append(e.believed(time)).append(' ').append(e.believed(time - 1)).toString();
  }

  // ---- the document

  private static String plain(String text) {
    return text.replaceAll("\\s+", " ").trim();
  }

  /** Each sentence stands where it is said to, and none of the document's is left out. */
  static void compareWithDocument() throws Exception {
    mustHaveAsked();
    asked = 1;
    Path document = Path.of("../shared/DOC.md");
    if (!Files.exists(document)) {
      System.out.println("there is no " + document + " to compare the sentences with");
      return;
    }
    Map<String, String> parts = parts(Files.readString(document));
    for (String cited : CITED.keySet()) Check.due("the document has '" + cited + "'", parts.containsKey(cited) ? 1 : 0, 1);
    for (Map.Entry<String, String> part : parts.entrySet()) {
      String text = part.getValue();
      StringBuilder left = new StringBuilder(text);
      for (String one : CITED.getOrDefault(part.getKey(), List.of())) {
        int at = text.indexOf(one);
        Check.due(part.getKey() + " has the sentence '" + one + "'", at >= 0 ? 1 : 0, 1);
        for (int i = Math.max(0, at); i < at + one.length(); i++) left.setCharAt(i, ' ');
      }
      String uncited = plain(left.toString().replaceAll("[;:.,|]", " "));
      Check.due(part.getKey() + " has no test of '" + uncited + "'", uncited.isEmpty() ? 1 : 0, 1);
    }
  }

  private static Map<String, String> parts(String document) {
    Map<String, String> parts = new LinkedHashMap<>();
    String text = document.replace("```text", "").replace("```", "");
    for (String section : text.split("\n## ")) {
      int line = section.indexOf('\n');
      String head = line < 0 ? section : section.substring(0, line).trim();
      String body = line < 0 ? "" : section.substring(line);
      if (head.startsWith("Promise ")) parts.put(head.substring(0, head.indexOf(':')), plain(body.substring(body.indexOf("`: ") + 3)));
      if (head.equals("Terms")) terms(body, parts);
      if (head.equals("What it is")) parts.put(head, plain(body.substring(body.indexOf("An object is used"))));
    }
    return parts;
  }

  private static void terms(String body, Map<String, String> parts) {
    int constants = body.indexOf("The constants:");
    parts.put("The constants", plain(body.substring(constants + 14)));
    String[] terms = body.substring(0, constants).split("==== \\d\\.");
    for (int i = 0; i < terms.length; i++) parts.put("Terms " + (i + 1), plain(terms[i]));
  }
}
