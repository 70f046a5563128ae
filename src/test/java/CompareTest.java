import java.util.ArrayList;
import java.util.List;
import java.util.Random;

/** Long runs of chance calls on the program and on the plain Oracle: each answer must be the same. */
final class CompareTest {
  private final Random r;
  private final StarEye eye = new StarEye();
  private final Oracle oracle = new Oracle();
  private final List<String> calls = new ArrayList<>();
  private int wide = 8;
  private int unit = 5;
  private final List<int[]> stars = new ArrayList<>();
  private static int wrongRuns = 0;
  static final java.util.TreeMap<String, Integer> seen = new java.util.TreeMap<>();

  private CompareTest(long seed) {
    r = new Random(seed);
  }

  public static void main(String[] args) {
    int runs = args.length > 0 ? Integer.parseInt(args[0]) : 1500;
    long from = args.length > 1 ? Long.parseLong(args[1]) : 0;
    for (int run = 0; run < runs && wrongRuns < 3; run++) new CompareTest(from + run).run();
    if (args.length > 2) System.out.println(seen);
    Check.finish("CompareTest");
  }

  private void run() {
    for (int i = 0; i < 120; i++) {
      if (!step()) {
        wrongRuns++;
        for (String call : calls) System.out.println("  " + call);
        return;
      }
    }
  }

  private boolean same(String call, long got, long want) {
    calls.add(call + " = " + got);
    Check.due(call, got, want);
    return got == want;
  }

  private boolean same(String call, boolean got, boolean want) {
    return same(call, got ? 1 : 0, want ? 1 : 0);
  }

  private int below(int n) {
    return r.nextInt(n);
  }

  /** Mostly a number from -1 to n, now and then any number. */
  private int some(int n) {
    return below(40) == 0 ? r.nextInt() : below(n + 2) - 1;
  }

  private int time() {
    int back = below(3) == 0 ? below(4) * below(3) : 0;
    return below(30) == 0 ? r.nextInt() : Math.max(0, oracle.about(3) - back) + (below(15) == 0 ? 1 : 0);
  }

  private boolean put(String text) {
    for (int at = 0; at < text.length(); at += 20) {
      int[] w = new int[5];
      for (int i = 0; i < 20; i++) {
        w[i / 4] = w[i / 4] << 8 | (at + i < text.length() ? text.charAt(at + i) & 255 : 0);
      }
      if (!same("feed", eye.feed(w[0], w[1], w[2], w[3], w[4]), oracle.feed(w))) return false;
    }
    return true;
  }

  private boolean tell(String text) {
    int before = oracle.about(4);
    calls.add("text '" + text + "'");
    return put(text) && same("end", eye.end(before + text.length()), oracle.end(before + text.length()));
  }

  private boolean faults() {
    return same("fault(0)", eye.fault(0), oracle.fault(0)) && same("fault(1)", eye.fault(1), oracle.fault(1));
  }

  private boolean step() {
    if (calls.isEmpty()) {
      if (!tellBook(true)) return false;
      for (int i = 0; i < 2; i++) if (!tellPicture()) return false;
      return tellRules();
    }
    switch (below(48)) {
      case 0: return below(6) != 0 || tellBook(false);
      case 1: case 2: case 3: return tellPicture();
      case 4: return tellRules();
      case 5: { int p = some(12); return below(4) != 0 || same("untell " + p, eye.untell(p), oracle.untell(p)); }
      case 6: { int by = below(5) == 0 ? some(1001) : below(3); return same("later " + by, eye.later(by), oracle.later(by)); }
      case 7: return tellSpeckless();
      case 8: case 9: return askDots();
      case 10: case 11: case 12: return askDot();
      case 13: { int a = some(8); int b = some(32); return same("length", eye.length(a, b), oracle.length(a, b)); }
      case 14: case 15: case 16: return askNamings();
      case 17: case 18: return askOdds();
      case 19: case 20: case 21: return askTurn();
      case 22: case 23: case 24: return askLook();
      case 25: case 26: return askFollowed();
      case 27: case 28: return askFollow();
      case 29: { int p = some(oracle.about(1)); int k = time(); return same("wanderers", eye.wanderers(p, k), oracle.wanderers(p, k)); }
      case 30: case 31: return askShift();
      case 32: { int a = some(5); int b = some(5); int c = some(5); return same("liar", eye.liar(a, b, c), oracle.liar(a, b, c)); }
      case 33: { int w = some(3); return same("looks " + w, eye.looks(w), oracle.looks(w)); }
      case 34: { int w = some(2); return same("chosen " + w, eye.chosen(w), oracle.chosen(w)); }
      case 35: case 36: { int b = below(2) == 0 ? below(120) : some(20000); return same("held " + b, eye.held(b), oracle.held(b)); }
      case 37: return same("doubles", eye.doubles(), oracle.doubles());
      case 38: case 39: case 40: { int p = some(oracle.about(1)); int k = time(); return same("trust " + p + " " + k, eye.trust(p, k), oracle.trust(p, k)); }
      case 41: { int k = time(); return same("believed " + k, eye.believed(k), oracle.believed(k)); }
      case 42: { int b = some(3); return same("image " + b, eye.image(b), oracle.image(b)); }
      case 43: { int b = some(3); return below(2) == 0 || same("back " + b, eye.back(b), oracle.back(b)); }
      case 44: case 45: { int w = some(7); return same("about " + w, eye.about(w), oracle.about(w)); }
      case 46: { int p = some(oracle.about(1)); int k = time(); return same("told " + p, eye.told(p, k), oracle.told(p, k)); }
      default: return askStrays();
    }
  }

  private boolean askStrays() {
    int n = some(1500);
    int w = some(2);
    return same("end " + n, eye.end(n), oracle.end(n)) && same("fault " + w, eye.fault(w), oracle.fault(w));
  }

  private boolean tellSpeckless() {
    int x = some(wide);
    int y = some(wide);
    if (below(2) == 0 && oracle.about(1) > 0) {
      int p = below(oracle.about(1));
      int d = below(12);
      int k = oracle.about(3);
      x = oracle.dot(p, d, 0, k) / 10;
      y = oracle.dot(p, d, 1, k) / 10;
    }
    boolean is = below(3) != 0;
    return same("speckless " + x + " " + y + " " + is, eye.speckless(x, y, is), oracle.speckless(x, y, is));
  }

  private boolean askDots() {
    int p = some(oracle.about(1));
    int w = some(4);
    int k = time();
    return same("dots " + p + " " + w + " " + k, eye.dots(p, w, k), oracle.dots(p, w, k));
  }

  private boolean askDot() {
    int p = some(oracle.about(1));
    int d = some(12);
    int w = some(5);
    int k = time();
    return same("dot " + p + " " + d + " " + w + " " + k, eye.dot(p, d, w, k), oracle.dot(p, d, w, k))
        && same("point " + p + " " + d + " " + k, eye.point(p, d, k), oracle.point(p, d, k));
  }

  private boolean askNamings() {
    int p = some(oracle.about(1));
    int w = some(2);
    int k = time();
    if (!same("namings " + p + " " + w + " " + k, eye.namings(p, w, k), oracle.namings(p, w, k))) return false;
    int all = Math.max(1, oracle.namings(p, 0, k));
    count("namings " + (all >= 200 ? "200" : all > 20 ? "21.." : all > 1 ? "2.." : "" + oracle.namings(p, 0, k)));
    count("named " + oracle.namings(p, 1, k));
    count("told " + oracle.told(p, k));
    int i = some(all);
    for (int point = -1; point <= 6; point++) {
      if (!same("named " + p + " " + i + " " + point, eye.named(p, i, point, k), oracle.named(p, i, point, k))) return false;
    }
    return true;
  }

  private static void count(String what) {
    seen.merge(what, 1, Integer::sum);
  }

  private int someNaming(int p, int k) {
    return some(Math.max(1, oracle.namings(p, 0, k)));
  }

  private boolean askOdds() {
    int p = some(oracle.about(1));
    int k = time();
    int i = someNaming(p, k);
    int part = some(2);
    return same("odds " + p + " " + i + " " + part, eye.odds(p, i, part, k), oracle.odds(p, i, part, k));
  }

  private boolean askTurn() {
    int p = some(oracle.about(1));
    int k = time();
    int i = someNaming(p, k);
    int w = some(2);
    return same("turn " + p + " " + i + " " + w, eye.turn(p, i, w, k), oracle.turn(p, i, w, k))
        && same("stretch " + p + " " + i, eye.stretch(p, i, k), oracle.stretch(p, i, k));
  }

  private boolean askLook() {
    int p = some(oracle.about(1));
    int k = time();
    int i = someNaming(p, k);
    int w = some(2);
    int part = some(2);
    return same("look " + p + " " + i + " " + w + " " + part, eye.look(p, i, w, part, k), oracle.look(p, i, w, part, k));
  }

  private boolean askFollowed() {
    int a = some(oracle.about(1));
    int b = some(oracle.about(1));
    int x = below(3) == 0 ? some(1000) : below(60) - 30;
    int y = below(6) == 0 ? -some(1000) : below(60) - 30;
    int w = some(3);
    int k = time();
    return same("followed " + a + " " + b + " " + x + " " + y + " " + w + " " + k,
        eye.followed(a, b, x, y, w, k), oracle.followed(a, b, x, y, w, k));
  }

  private boolean askFollow() {
    int a = some(oracle.about(1));
    int b = some(oracle.about(1));
    int x = below(3) == 0 ? some(1000) : below(60) - 30;
    int y = below(6) == 0 ? -some(1000) : below(60) - 30;
    int point = some(12);
    int k = time();
    return same("follow " + a + " " + b + " " + x + " " + y + " " + point + " " + k,
        eye.follow(a, b, x, y, point, k), oracle.follow(a, b, x, y, point, k));
  }

  private boolean askShift() {
    int a = some(oracle.about(1));
    int b = some(oracle.about(1));
    int k = time();
    int star = below(3) == 0 ? some(oracle.about(0)) : oracle.named(a, 0, below(6), k);
    int w = some(2);
    return same("shift " + a + " " + b + " " + star + " " + w, eye.shift(a, b, star, w, k), oracle.shift(a, b, star, w, k));
  }

  // ---- texts

  private boolean tellBook(boolean good) {
    String text = bookText();
    boolean spoilt = !good && below(2) == 0;
    if (spoilt) text = spoil(text);
    if (text.length() > 1480) text = text.substring(0, 1480);
    if (!same("end", eye.end(0), oracle.end(0)) || !tell(text)) return false;
    if (!same("book", eye.book(), oracle.book()) || !faults()) return false;
    count("book fault " + oracle.fault(0));
    return true;
  }

  private String bookText() {
    StringBuilder all = new StringBuilder();
    int newWide = below(3) == 0 ? 16 : 4 + below(13);
    int newUnit = below(3) == 0 ? 1 + below(9) : 4 + below(6);
    List<String> lines = new ArrayList<>();
    if (below(6) != 0) lines.add("eye wide " + newWide + " unit " + newUnit + " far " + (below(2) == 0 ? 1 + below(999) : 40 + below(300)) + ";");
    else { newWide = 8; newUnit = 5; }
    if (below(2) == 0) lines.add("noise " + below(6) + ";");
    if (below(4) != 0) lines.add("off " + below(6) + ";");
    if (below(2) == 0) lines.add("bar " + (1 + below(below(2) == 0 ? 9999 : 200)) + ";");
    if (below(3) != 0) lines.add("step " + (100 + below(below(2) == 0 ? 900 : 200)) + " needs " + (1 + below(6)) + ";");
    if (below(2) == 0) lines.add("lean " + (below(199) - 99) + " " + (below(199) - 99) + ";");
    if (below(2) == 0) lines.add("room star " + (1 + below(99)) + " pair " + (1 + below(99)) + ";");
    List<int[]> sky = sky(newWide * newUnit);
    for (int i = 0; i < sky.size(); i++) {
      lines.add(below(lines.size() + 1), "");
    }
    int star = 0;
    for (String line : lines) {
      if (line.isEmpty()) {
        int[] s = sky.get(star++);
        all.append("star ").append((char) ('a' + star % 26)).append(star >= 26 ? "x" : "").append(" at ").append(s[0]).append(" ")
            .append(s[1]).append(" light ").append(1 + below(below(2) == 0 ? 99 : 3)).append(";");
      } else {
        all.append(line);
      }
      if (below(20) == 0) all.append(below(2) == 0 ? " " : "\n");
    }
    wide = newWide;
    unit = newUnit;
    stars.clear();
    stars.addAll(sky);
    return all.toString();
  }

  private List<int[]> sky(int field) {
    List<int[]> sky = new ArrayList<>();
    int most = below(4) == 0 ? 32 : below(4) == 0 ? below(6) : 5 + below(15);
    int mode = Math.min(3, below(6));
    int ox = below(700);
    int oy = below(700);
    int step = 20 + below(15);
    for (int i = 0; i < 400 && sky.size() < most; i++) {
      int x = below(1000);
      int y = below(1000);
      if (mode == 1 || mode == 0 && below(3) != 0) {
        x = ox + below(Math.max(60, field + field / 2));
        y = oy + below(Math.max(60, field + field / 2));
      } else if (mode == 2) {
        x = ox + step * below(7);
        y = oy + step * below(7);
      } else if (mode == 3) {
        x = ox + step * (i % 6);
        y = oy + step * (i / 6);
      }
      if (x > 999 || y > 999) continue;
      boolean near = false;
      for (int[] s : sky) near |= (s[0] - x) * (s[0] - x) + (s[1] - y) * (s[1] - y) < 400;
      if (!near || below(3000) == 0) sky.add(new int[] {x, y});
    }
    return sky;
  }

  private String spoil(String text) {
    StringBuilder all = new StringBuilder(text);
    for (int i = 1 + below(2); i > 0; i--) {
      if (all.length() == 0) return "" + (char) (32 + below(96));
      int at = below(all.length());
      String signs = ";-()<>=+ \n0123456789aznostar$";
      switch (below(5)) {
        case 0: all.setLength(at); break;
        case 1: all.deleteCharAt(at); break;
        case 2: all.insert(at, signs.charAt(below(signs.length()))); break;
        case 3: all.setCharAt(at, signs.charAt(below(signs.length()))); break;
        default: {
          int end = Math.min(all.length(), at + below(30));
          all.insert(below(all.length()), all.substring(at, end));
        }
      }
    }
    return all.toString();
  }

  private boolean tellPicture() {
    String text = pictureText();
    if (below(12) == 0) text = spoil(text);
    if (!same("end", eye.end(0), oracle.end(0)) || !tell(text)) return false;
    if (!same("picture", eye.picture(), oracle.picture()) || !faults()) return false;
    count("picture fault " + oracle.fault(0));
    return true;
  }

  private String pictureText() {
    int[][] light = new int[wide][wide];
    if (below(3) == 0) for (int[] row : light) for (int x = 0; x < wide; x++) row[x] = below(3);
    if (below(4) == 0) for (int i = below(wide * wide / 2); i > 0; i--) light[below(wide)][below(wide)] = below(10);
    if (below(6) == 0) for (int x = 0; x <= below(wide); x++) light[below(2)][x] = 9;
    if (below(3) == 0) light[1][1] = light[2][wide - 1] = 9;
    if (!stars.isEmpty()) drawStars(light);
    StringBuilder all = new StringBuilder();
    for (int[] row : light) {
      for (int v : row) {
        all.append(v);
        if (below(300) == 0) all.append(' ');
      }
      all.append(';');
    }
    return all.toString();
  }

  private void drawStars(int[][] light) {
    int[] middle = stars.get(below(stars.size()));
    double angle = below(2) == 0 ? below(4) * Math.PI / 2 : r.nextDouble() * 2 * Math.PI;
    double x0 = below(3) == 0 ? wide / 2.0 : r.nextDouble() * wide;
    double y0 = below(3) == 0 ? wide / 2.0 : r.nextDouble() * wide;
    double flip = below(12) == 0 ? -1 : 1;
    for (int[] s : stars) {
      double dx = (s[0] - middle[0]) * flip / unit;
      double dy = (double) (s[1] - middle[1]) / unit;
      int x = (int) Math.floor(x0 + dx * Math.cos(angle) - dy * Math.sin(angle));
      int y = (int) Math.floor(y0 + dx * Math.sin(angle) + dy * Math.cos(angle));
      if (x < 0 || y < 0 || x >= wide || y >= wide || below(8) == 0) continue;
      light[y][x] = 5 + below(5);
      if (below(8) == 0 && x + 1 < wide) light[y][x + 1] = below(10);
    }
  }

  private boolean tellRules() {
    StringBuilder all = new StringBuilder();
    for (int i = below(3); i >= 0; i--) all.append("trust ").append(below(100)).append(" when ").append(either(below(below(4) + 1))).append(";");
    String text = all.toString();
    if (below(4) == 0) text = spoil(text);
    if (!same("end", eye.end(0), oracle.end(0)) || !tell(text)) return false;
    if (!same("rules", eye.rules(), oracle.rules()) || !faults()) return false;
    count("rules fault " + oracle.fault(0) + (oracle.about(4) > 0 ? " too long" : ""));
    return true;
  }

  private String either(int deep) {
    String all = one(deep);
    for (int i = below(3); i > 0; i--) all += (below(2) == 0 ? " or " : " and ") + one(deep);
    return all;
  }

  private String one(int deep) {
    if (below(5) == 0) return "not " + one(deep);
    return below(2) == 0 ? sum(deep) : sum(deep) + "<>=".charAt(below(3)) + sum(deep);
  }

  private String sum(int deep) {
    String all = unit(deep);
    for (int i = below(3) - 1; i > 0; i--) all += (below(2) == 0 ? "+" : "-") + unit(deep);
    return all;
  }

  private String unit(int deep) {
    if (deep > 0 && below(3) == 0) return "(" + either(deep - 1) + ")";
    String[] words = {"dots", "named", "namings", "specks", "smears", "told", "stretch", "light"};
    return below(3) == 0 ? " " + below(below(2) == 0 ? 10 : 1100) + " " : " " + words[below(words.length)] + " ";
  }
}
