import java.math.BigInteger;
import java.util.ArrayDeque;
import java.util.ArrayList;
import java.util.Arrays;
import java.util.Comparator;
import java.util.HashMap;
import java.util.HashSet;
import java.util.List;
import java.util.Map;
import java.util.Set;
import java.util.TreeMap;
import java.util.TreeSet;
import java.util.function.ToIntFunction;
import java.util.regex.Matcher;
import java.util.regex.Pattern;

/** The document once more, as plainly and slowly as can be, to compare the program's answers with. */
final class Oracle {
  static final long GAP = -1000000000000L;

  static final class Fault extends RuntimeException {
    final int kind;
    final int place;
    Fault(int kind, int place) {
      super(null, null, false, false);
      this.kind = kind;
      this.place = place;
    }
  }

  record Token(char kind, String text, int place) { }
  record Star(String name, int x, int y, int light) { }
  record Dot(int x, int y, int light, boolean smear, int pixels, int first) { }
  record Seen(List<Dot> dots, int told) { }
  record Rule(int trust, ToIntFunction<Map<String, Integer>> when) { }
  record Kept(List<Seen> pictures, Map<Integer, Integer> untold, Set<Integer> speckless, int time) { }

  static final Set<String> OWN = Set.of(("star at light eye wide unit far noise off bar step needs lean room pair "
      + "trust when dots named namings specks smears told stretch and or not").split(" "));

  private String tape = "";
  private int fault = 0;
  private int faultPlace = -1;
  private List<Star> stars = new ArrayList<>();
  private Map<String, Integer> set = defaults();
  private List<Seen> pictures = new ArrayList<>();
  private Map<Integer, Integer> untold = new TreeMap<>();
  private Set<Integer> speckless = new TreeSet<>();
  private List<Rule> rules = new ArrayList<>();
  private int units = 0;
  private int time = 0;
  private final Map<Integer, Kept> boxes = new HashMap<>();
  private int[] chosenCache = null;

  private static Map<String, Integer> defaults() {
    Map<String, Integer> all = new HashMap<>();
    String[] words = "wide 8 unit 5 far 40 noise 2 off 2 bar 100 step 100 needs 3 leanx 0 leany 0 star 6 pair 4".split(" ");
    for (int i = 0; i < words.length; i += 2) all.put(words[i], Integer.parseInt(words[i + 1]));
    return all;
  }

  // ---- the TAPE

  int feed(int... five) {
    if (tape.length() + 20 > 1500) return -1;
    StringBuilder all = new StringBuilder(tape);
    for (int number : five) for (int i = 3; i >= 0; i--) all.append((char) (number >> 8 * i & 255));
    tape = all.toString();
    return tape.length();
  }

  int end(int n) {
    if (n < 0 || n > tape.length()) return -1;
    tape = tape.substring(0, n);
    return n;
  }

  // ---- TOKENS

  private static final Pattern TOKEN = Pattern.compile("[ \\n]*(?:([a-z]+)|([0-9]+[a-z]?)|([^ \\na-z0-9])|$)", Pattern.DOTALL);

  private final class Reader {
    final List<Token> tokens = new ArrayList<>();
    int at = 0;
    int units = 0;

    Reader(String text, String signs) {
      Matcher m = TOKEN.matcher(text);
      int from = 0;
      while (from < text.length() && m.find(from)) {
        if (m.group(1) != null) {
          tokens.add(new Token(m.group(1).length() > 8 ? '!' : 'w', m.group(1), m.start(1)));
        } else if (m.group(2) != null) {
          tokens.add(new Token(m.group(2).matches("[0-9]{1,4}") ? 'n' : '!', m.group(2), m.start(2)));
        } else if (m.group(3) != null) {
          tokens.add(new Token(signs.contains(m.group(3)) ? 's' : '!', m.group(3), m.start(3)));
        }
        from = m.end();
      }
      tokens.add(new Token('$', "", text.length()));
    }

    Token here() {
      return tokens.get(at);
    }

    boolean is(String text) {
      return (here().kind() == 'w' || here().kind() == 's') && here().text().equals(text);
    }

    Fault cant() {
      return new Fault(here().kind() == '!' ? 1 : 2, here().place());
    }

    void take(String text) {
      if (!is(text)) throw cant();
      at++;
    }

    int number(int least, int most) {
      if (here().kind() != 'n') throw cant();
      int value = Integer.parseInt(here().text());
      if (value < least || value > most) throw new Fault(4, here().place());
      at++;
      return value;
    }

    int signed() {
      int place = here().place();
      int by = 1;
      if (is("-")) {
        at++;
        by = -1;
      }
      if (here().kind() != 'n') throw cant();
      int value = by * Integer.parseInt(here().text());
      if (value < -99 || value > 99) throw new Fault(4, place);
      at++;
      return value;
    }
  }

  private void good() {
    fault = 0;
    faultPlace = -1;
  }

  private int bad(Fault f) {
    fault = f.kind;
    faultPlace = f.place;
    return -1;
  }

  int book() {
    String text = tape;
    tape = "";
    List<Star> newStars = new ArrayList<>();
    Map<String, Integer> newSet = defaults();
    try {
      readBook(new Reader(text, ";-"), newStars, newSet);
    } catch (Fault f) {
      return bad(f);
    }
    good();
    stars = newStars;
    set = newSet;
    pictures = new ArrayList<>();
    untold = new TreeMap<>();
    speckless = new TreeSet<>();
    rules = new ArrayList<>();
    units = 0;
    boxes.clear();
    chosenCache = null;
    return stars.size();
  }

  private static void readBook(Reader r, List<Star> stars, Map<String, Integer> set) {
    Set<String> lines = new HashSet<>();
    while (r.here().kind() != '$') {
      String word = r.here().kind() == 'w' ? r.here().text() : "";
      if (word.equals("star")) {
        readStar(r, stars);
      } else {
        if (lines.contains(word) || !Set.of("eye", "noise", "off", "bar", "step", "lean", "room").contains(word)) throw r.cant();
        lines.add(word);
        r.at++;
        switch (word) {
          case "eye" -> {
            r.take("wide");
            set.put("wide", r.number(4, 16));
            r.take("unit");
            set.put("unit", r.number(1, 9));
            r.take("far");
            set.put("far", r.number(1, 999));
          }
          case "noise" -> set.put("noise", r.number(0, 9));
          case "off" -> set.put("off", r.number(0, 5));
          case "bar" -> set.put("bar", r.number(1, 9999));
          case "step" -> {
            set.put("step", r.number(100, 999));
            r.take("needs");
            set.put("needs", r.number(1, 6));
          }
          case "lean" -> {
            set.put("leanx", r.signed());
            set.put("leany", r.signed());
          }
          default -> {
            r.take("star");
            set.put("star", r.number(1, 99));
            r.take("pair");
            set.put("pair", r.number(1, 99));
          }
        }
      }
      r.take(";");
    }
  }

  private static void readStar(Reader r, List<Star> stars) {
    if (stars.size() == 32) throw r.cant();
    r.at++;
    if (r.here().kind() != 'w' || OWN.contains(r.here().text())) throw r.cant();
    String name = r.here().text();
    if (stars.stream().anyMatch(s -> s.name().equals(name))) throw new Fault(3, r.here().place());
    r.at++;
    r.take("at");
    int place = r.here().place();
    int x = r.number(0, 999);
    int y = r.number(0, 999);
    if (stars.stream().anyMatch(s -> Math.hypot(s.x() - x, s.y() - y) < 20 - 1e-9)) throw new Fault(6, place);
    r.take("light");
    stars.add(new Star(name, x, y, r.number(1, 99)));
  }

  // ---- PICTURES

  int picture() {
    if (tape.length() > 400) return -2;
    String text = tape;
    tape = "";
    if (pictures.size() == 12) return -3;
    int wide = set.get("wide");
    int[][] light = new int[wide][wide];
    try {
      readRows(text, wide, light);
    } catch (Fault f) {
      return bad(f);
    }
    good();
    pictures.add(new Seen(findDots(light, wide), time));
    return pictures.size() - 1;
  }

  private static void readRows(String text, int wide, int[][] light) {
    int digits = 0;
    int ends = 0;
    for (int i = 0; i < text.length(); i++) {
      char c = text.charAt(i);
      if (c == ' ' || c == '\n') continue;
      if (c != ';' && !(c >= '0' && c <= '9')) throw new Fault(1, i);
      if (ends == wide) throw new Fault(2, i);
      boolean full = digits == wide * (ends + 1);
      if ((c == ';') != full) throw new Fault(2, i);
      if (full) {
        ends++;
      } else {
        light[digits / wide][digits % wide] = c - '0';
        digits++;
      }
    }
    if (ends < wide) throw new Fault(2, text.length());
  }

  private List<Dot> findDots(int[][] light, int wide) {
    List<Dot> all = new ArrayList<>();
    boolean[][] done = new boolean[wide][wide];
    for (int row = 0; row < wide; row++) {
      for (int column = 0; column < wide; column++) {
        if (done[row][column] || light[row][column] <= set.get("noise")) continue;
        List<int[]> part = new ArrayList<>();
        ArrayDeque<int[]> open = new ArrayDeque<>();
        open.add(new int[] {row, column});
        done[row][column] = true;
        while (!open.isEmpty()) {
          int[] p = open.pop();
          part.add(p);
          for (int[] by : new int[][] {{0, 1}, {1, 0}, {0, -1}, {-1, 0}}) {
            int r = p[0] + by[0];
            int c = p[1] + by[1];
            if (r < 0 || c < 0 || r >= wide || c >= wide || done[r][c] || light[r][c] <= set.get("noise")) continue;
            done[r][c] = true;
            open.add(new int[] {r, c});
          }
        }
        int sum = part.stream().mapToInt(p -> light[p[0]][p[1]]).sum();
        int x = part.stream().mapToInt(p -> (10 * p[1] + 5) * light[p[0]][p[1]]).sum() / sum;
        int y = part.stream().mapToInt(p -> (10 * p[0] + 5) * light[p[0]][p[1]]).sum() / sum;
        long rows = part.stream().mapToInt(p -> p[0]).max().getAsInt() - part.stream().mapToInt(p -> p[0]).min().getAsInt() + 1;
        long columns = part.stream().mapToInt(p -> p[1]).max().getAsInt() - part.stream().mapToInt(p -> p[1]).min().getAsInt() + 1;
        all.add(new Dot(x, y, sum, rows > 3 || columns > 3, part.size(), row * wide + column));
      }
    }
    all.sort(Comparator.comparingInt((Dot d) -> -d.light()).thenComparingInt(Dot::y).thenComparingInt(Dot::x).thenComparingInt(Dot::first));
    return all.size() > 12 ? new ArrayList<>(all.subList(0, 12)) : all;
  }

  private boolean counts(int picture, int k) {
    return picture >= 0 && picture < pictures.size() && pictures.get(picture).told() <= k
        && !(untold.containsKey(picture) && untold.get(picture) <= k);
  }

  private List<Dot> dotsOf(int picture) {
    return pictures.get(picture).dots();
  }

  private boolean isSpeck(Dot dot, int k) {
    if (dot.smear()) return false;
    int pixel = dot.y() / 10 * 16 + dot.x() / 10;
    if (speckless.contains(pixel)) return false;
    int counting = 0;
    for (int p = 0; p < pictures.size(); p++) {
      if (!counts(p, k)) continue;
      counting++;
      if (dotsOf(p).stream().noneMatch(d -> d.y() / 10 * 16 + d.x() / 10 == pixel)) return false;
    }
    return counting >= 3;
  }

  private List<Integer> points(int picture, int k) {
    List<Integer> all = new ArrayList<>();
    for (int i = 0; i < dotsOf(picture).size(); i++) {
      Dot d = dotsOf(picture).get(i);
      if (!d.smear() && !isSpeck(d, k)) all.add(i);
    }
    return all;
  }

  int fault(int what) {
    return what == 0 ? fault : what == 1 ? faultPlace : -1;
  }

  boolean untell(int picture) {
    if (picture < 0 || picture >= pictures.size() || untold.containsKey(picture)) return false;
    untold.put(picture, time);
    return true;
  }

  int later(int by) {
    if (by < 0 || by > 1000 || time + by > 100000) return -1;
    return time += by;
  }

  boolean speckless(int column, int row, boolean is) {
    int wide = set.get("wide");
    if (column < 0 || row < 0 || column >= wide || row >= wide) return false;
    return is ? speckless.add(row * 16 + column) : speckless.remove(row * 16 + column);
  }

  int dots(int picture, int what, int k) {
    if (!counts(picture, k)) return -1;
    List<Dot> dots = dotsOf(picture);
    return switch (what) {
      case 0 -> dots.size();
      case 1 -> (int) dots.stream().filter(Dot::smear).count();
      case 2 -> (int) dots.stream().filter(d -> isSpeck(d, k)).count();
      case 3 -> points(picture, k).size();
      default -> -1;
    };
  }

  int dot(int picture, int dot, int what, int k) {
    if (!counts(picture, k) || dot < 0 || dot >= dotsOf(picture).size()) return -1;
    Dot d = dotsOf(picture).get(dot);
    return switch (what) {
      case 0 -> d.x();
      case 1 -> d.y();
      case 2 -> d.light();
      case 3 -> d.smear() ? 1 : isSpeck(d, k) ? 2 : 0;
      case 4 -> d.pixels();
      default -> -1;
    };
  }

  int point(int picture, int point, int k) {
    if (!counts(picture, k)) return -1;
    List<Integer> all = points(picture, k);
    return point < 0 || point >= all.size() ? -1 : all.get(point);
  }

  // ---- NAMINGS

  private static int root(long square) {
    return BigInteger.valueOf(square).sqrt().intValueExact();
  }

  private int[] starAt(int star) {
    return new int[] {10 * stars.get(star).x() + 10 * set.get("leanx"), 10 * stars.get(star).y() + 10 * set.get("leany")};
  }

  private int[] pointAt(int picture, int dot) {
    Dot d = dotsOf(picture).get(dot);
    return new int[] {d.x() * set.get("unit"), d.y() * set.get("unit")};
  }

  private static int far(int[] a, int[] b) {
    long dx = a[0] - b[0];
    long dy = a[1] - b[1];
    return root(dx * dx + dy * dy);
  }

  private static int side(int[] a, int[] b, int[] c) {
    return Long.signum((long) (b[0] - a[0]) * (c[1] - a[1]) - (long) (b[1] - a[1]) * (c[0] - a[0]));
  }

  int length(int a, int b) {
    if (a < 0 || b < 0 || a >= stars.size() || b >= stars.size()) return -1;
    return far(starAt(a), starAt(b));
  }

  private List<int[]> allNamings(int picture, int k) {
    List<Integer> points = points(picture, k);
    int n = Math.min(6, points.size());
    int[][] at = new int[n][];
    for (int i = 0; i < n; i++) at[i] = pointAt(picture, points.get(i));
    int[][] sky = new int[stars.size()][];
    for (int s = 0; s < sky.length; s++) sky[s] = starAt(s);
    List<int[]> all = new ArrayList<>();
    goOn(new int[n], 0, at, sky, all);
    int most = all.stream().mapToInt(Oracle::sizeOf).max().orElse(0);
    if (most < 3) return new ArrayList<>();
    List<int[]> best = new ArrayList<>();
    for (int[] one : all) if (sizeOf(one) == most && best.size() < 200) best.add(one);
    return best;
  }

  private static int sizeOf(int[] naming) {
    return (int) Arrays.stream(naming).filter(s -> s >= 0).count();
  }

  private void goOn(int[] names, int i, int[][] at, int[][] sky, List<int[]> all) {
    if (i == names.length) {
      all.add(names.clone());
      return;
    }
    for (int s = 0; s < sky.length; s++) {
      names[i] = s;
      if (holds(names, i, at, sky)) goOn(names, i + 1, at, sky, all);
    }
    names[i] = -1;
    goOn(names, i + 1, at, sky, all);
  }

  private boolean holds(int[] names, int i, int[][] at, int[][] sky) {
    for (int j = 0; j < i; j++) {
      if (names[j] < 0) continue;
      if (names[j] == names[i]) return false;
      if (Math.abs(far(at[i], at[j]) - far(sky[names[i]], sky[names[j]])) > 10 * set.get("off")) return false;
      for (int h = 0; h < j; h++) {
        if (names[h] >= 0 && side(at[h], at[j], at[i]) != side(sky[names[h]], sky[names[j]], sky[names[i]])) return false;
      }
    }
    return true;
  }

  private final Map<List<Object>, List<int[]>> namingCache = new HashMap<>();

  private List<int[]> namingsOf(int picture, int k) {
    List<Object> key = List.of(System.identityHashCode(pictures.get(picture)), stars, set, points(picture, k), dotsOf(picture));
    return namingCache.computeIfAbsent(key, x -> allNamings(picture, k));
  }

  int namings(int picture, int what, int k) {
    if (!counts(picture, k)) return -1;
    List<int[]> all = namingsOf(picture, k);
    return what == 0 ? all.size() : what == 1 ? all.isEmpty() ? 0 : sizeOf(all.get(0)) : -1;
  }

  private int[] naming(int picture, int i, int k) {
    if (!counts(picture, k)) return null;
    List<int[]> all = namingsOf(picture, k);
    return i < 0 || i >= all.size() ? null : all.get(i);
  }

  int named(int picture, int i, int point, int k) {
    int[] one = naming(picture, i, k);
    return one == null || point < 0 || point >= one.length ? -1 : one[point];
  }

  private BigInteger[] oddsOf(int picture, int[] one, int k) {
    List<Integer> points = points(picture, k);
    List<Integer> named = new ArrayList<>();
    for (int i = 0; i < one.length; i++) if (one[i] >= 0) named.add(points.get(i));
    BigInteger upper = BigInteger.ONE;
    BigInteger lower = BigInteger.ONE;
    for (int i = 1; i < named.size(); i++) {
      int between = far(pointAt(picture, named.get(i - 1)), pointAt(picture, named.get(i)));
      int fit = 0;
      int pairs = 0;
      for (int a = 0; a < stars.size(); a++) {
        for (int b = a + 1; b < stars.size(); b++) {
          pairs++;
          if (Math.abs(length(a, b) - between) <= 10 * set.get("off")) fit++;
        }
      }
      upper = upper.multiply(BigInteger.valueOf(fit));
      lower = lower.multiply(BigInteger.valueOf(pairs));
    }
    BigInteger both = upper.gcd(lower);
    return new BigInteger[] {upper.divide(both), lower.divide(both)};
  }

  long odds(int picture, int i, int part, int k) {
    int[] one = naming(picture, i, k);
    return one == null || part < 0 || part > 1 ? GAP : oddsOf(picture, one, k)[part].longValueExact();
  }

  int told(int picture, int k) {
    if (!counts(picture, k)) return -1;
    List<int[]> all = namingsOf(picture, k);
    if (all.size() != 1) return 0;
    BigInteger[] odds = oddsOf(picture, all.get(0), k);
    return odds[0].multiply(BigInteger.valueOf(set.get("bar"))).compareTo(odds[1]) <= 0 ? 1 : 0;
  }

  /** A, C, S, the count, the sums of POINTS' and STARS' x and y. */
  private BigInteger[] sums(int picture, int[] one, int k) {
    List<Integer> points = points(picture, k);
    List<int[]> p = new ArrayList<>();
    List<int[]> q = new ArrayList<>();
    for (int i = 0; i < one.length; i++) {
      if (one[i] < 0) continue;
      p.add(pointAt(picture, points.get(i)));
      q.add(starAt(one[i]));
    }
    long n = p.size();
    long px = p.stream().mapToLong(v -> v[0]).sum();
    long py = p.stream().mapToLong(v -> v[1]).sum();
    long qx = q.stream().mapToLong(v -> v[0]).sum();
    long qy = q.stream().mapToLong(v -> v[1]).sum();
    BigInteger a = BigInteger.ZERO;
    BigInteger c = a;
    BigInteger s = a;
    for (int i = 0; i < n; i++) {
      BigInteger ax = BigInteger.valueOf(n * p.get(i)[0] - px);
      BigInteger ay = BigInteger.valueOf(n * p.get(i)[1] - py);
      BigInteger bx = BigInteger.valueOf(n * q.get(i)[0] - qx);
      BigInteger by = BigInteger.valueOf(n * q.get(i)[1] - qy);
      a = a.add(ax.pow(2)).add(ay.pow(2));
      c = c.add(ax.multiply(bx)).add(ay.multiply(by));
      s = s.add(ax.multiply(by)).subtract(ay.multiply(bx));
    }
    return new BigInteger[] {a, c, s, BigInteger.valueOf(n), BigInteger.valueOf(px), BigInteger.valueOf(py),
        BigInteger.valueOf(qx), BigInteger.valueOf(qy)};
  }

  long turn(int picture, int i, int what, int k) {
    int[] one = naming(picture, i, k);
    if (one == null || what < 0 || what > 1) return GAP;
    BigInteger[] all = sums(picture, one, k);
    BigInteger both = all[1].gcd(all[2]);
    return both.signum() == 0 ? 0 : all[1 + what].divide(both).longValueExact();
  }

  long look(int picture, int i, int what, int part, int k) {
    int[] one = naming(picture, i, k);
    if (one == null || what < 0 || what > 1 || part < 0 || part > 1) return GAP;
    BigInteger[] all = sums(picture, one, k);
    if (all[0].signum() == 0) return GAP;
    BigInteger n = all[3];
    BigInteger middle = BigInteger.valueOf(5L * set.get("wide") * set.get("unit")).multiply(n);
    BigInteger x = middle.subtract(all[4]);
    BigInteger y = middle.subtract(all[5]);
    BigInteger c = all[1];
    BigInteger s = all[2];
    BigInteger turned = what == 0 ? c.multiply(x).subtract(s.multiply(y)) : s.multiply(x).add(c.multiply(y));
    // mean of STARS = sum / n, and turned / (n * A)
    BigInteger upper = all[6 + what].multiply(all[0]).add(turned);
    BigInteger lower = n.multiply(all[0]);
    BigInteger both = upper.gcd(lower);
    return (part == 0 ? upper : lower).divide(both).longValueExact();
  }

  long stretch(int picture, int i, int k) {
    int[] one = naming(picture, i, k);
    if (one == null) return GAP;
    BigInteger[] all = sums(picture, one, k);
    if (all[0].signum() == 0) return GAP;
    return all[1].pow(2).add(all[2].pow(2)).sqrt().multiply(BigInteger.valueOf(1000)).divide(all[0]).longValueExact();
  }

  // ---- FOLLOWED

  private int[] followAll(int from, int to, int x, int y, int k) {
    if (!counts(from, k) || !counts(to, k) || Math.abs((long) x) > 999 || Math.abs((long) y) > 999) return null;
    List<Integer> first = points(from, k);
    List<Integer> second = points(to, k);
    int[] as = new int[first.size()];
    Set<Integer> taken = new HashSet<>();
    for (int i = 0; i < as.length; i++) {
      Dot d = dotsOf(from).get(first.get(i));
      TreeMap<Integer, Integer> near = new TreeMap<>();
      for (int j = 0; j < second.size(); j++) {
        Dot e = dotsOf(to).get(second.get(j));
        if (!taken.contains(j)) near.putIfAbsent(Math.abs(d.x() + x - e.x()) + Math.abs(d.y() + y - e.y()), j);
      }
      as[i] = !near.isEmpty() && near.firstKey() <= 10 * set.get("off") ? near.firstEntry().getValue() : -1;
      taken.add(as[i]);
    }
    return as;
  }

  int followed(int from, int to, int x, int y, int what, int k) {
    int[] as = followAll(from, to, x, y, k);
    if (as == null) return -1;
    int found = sizeOf(as);
    return what == 0 ? found : what == 1 ? as.length - found : what == 2 ? points(to, k).size() - found : -1;
  }

  int follow(int from, int to, int x, int y, int point, int k) {
    int[] as = followAll(from, to, x, y, k);
    return as == null || point < 0 || point >= as.length ? -1 : as[point];
  }

  int wanderers(int picture, int k) {
    int[] one = naming(picture, 0, k);
    if (one == null) return -1;
    int bits = 0;
    for (int i = 0; i < one.length; i++) if (one[i] < 0) bits += 1 << i;
    return bits;
  }

  long shift(int from, int to, int star, int what, int k) {
    if (star < 0 || star >= stars.size() || what < 0 || what > 1) return GAP;
    long[] at = new long[2];
    int[] both = {from, to};
    for (int i = 0; i < 2; i++) {
      int[] one = naming(both[i], 0, k);
      if (one == null) return GAP;
      int point = -1;
      for (int j = 0; j < one.length; j++) if (one[j] == star) point = j;
      if (point < 0) return GAP;
      Dot d = dotsOf(both[i]).get(points(both[i], k).get(point));
      at[i] = what == 0 ? d.x() : d.y();
    }
    return at[1] - at[0];
  }

  int liar(int a, int b, int c) {
    if (a == b && a == c) return -1;
    long[] v = {a, b, c};
    int[][] pairs = {{0, 1}, {0, 2}, {1, 2}};
    int best = 0;
    for (int i = 1; i < 3; i++) {
      if (Math.abs(v[pairs[i][0]] - v[pairs[i][1]]) < Math.abs(v[pairs[best][0]] - v[pairs[best][1]])) best = i;
    }
    return 2 - best;
  }

  // ---- the BOOK alone

  private List<List<Integer>> allLooks(List<int[]> where) {
    List<List<Integer>> all = new ArrayList<>();
    for (int x = 0; x <= 999; x += set.get("step")) {
      for (int y = 0; y <= 999; y += set.get("step")) {
        List<Integer> sees = new ArrayList<>();
        for (int s = 0; s < stars.size(); s++) {
          if (Math.hypot(stars.get(s).x() - x, stars.get(s).y() - y) <= set.get("far") + 1e-9) sees.add(s);
        }
        all.add(sees);
        where.add(new int[] {x, y});
      }
    }
    return all;
  }

  int looks(int what) {
    List<int[]> where = new ArrayList<>();
    List<List<Integer>> all = allLooks(where);
    int holes = 0;
    int first = -1;
    for (int i = 0; i < all.size(); i++) {
      if (all.get(i).size() >= set.get("needs")) continue;
      holes++;
      if (first < 0) first = 1000 * where.get(i)[0] + where.get(i)[1];
    }
    return what == 0 ? all.size() : what == 1 ? holes : what == 2 ? first : -1;
  }

  int chosen(int what) {
    if (what != 0 && what != 1) return -1;
    if (stars.size() > 16) return -2;
    if (chosenCache == null) {
      Set<Integer> masks = new HashSet<>();
      for (List<Integer> sees : allLooks(new ArrayList<>())) masks.add(sees.stream().mapToInt(s -> 1 << s).sum());
      int best = (1 << stars.size()) - 1;
      for (int bits = 0; bits < 1 << stars.size(); bits++) {
        final int tried = bits;
        if (Integer.bitCount(bits) < Integer.bitCount(best) && masks.stream().allMatch(m ->
            Integer.bitCount(m & tried) >= Math.min(set.get("needs"), Integer.bitCount(m)))) best = bits;
      }
      chosenCache = new int[] {Integer.bitCount(best), best};
    }
    return chosenCache[what];
  }

  int held(int bytes) {
    if (bytes < 0 || bytes > 99999) return -1;
    List<Star> sorted = new ArrayList<>(stars);
    sorted.sort(Comparator.comparingInt(s -> -s.light()));
    for (int n = sorted.size(); n > 0; n--) {
      int need = n * set.get("star");
      for (int i = 0; i < n; i++) {
        for (int j = i + 1; j < n; j++) {
          double away = Math.hypot(sorted.get(i).x() - sorted.get(j).x(), sorted.get(i).y() - sorted.get(j).y());
          if (away <= 2 * set.get("far") + 1e-9) need += set.get("pair");
        }
      }
      if (need <= bytes) return n;
    }
    return 0;
  }

  int doubles() {
    int all = 0;
    for (int a = 0; a < stars.size(); a++) {
      for (int b = a + 1; b < stars.size(); b++) {
        int alike = 0;
        for (int s = 0; s < stars.size(); s++) {
          if (s != a && s != b && Math.abs(length(s, a) - length(s, b)) <= 10 * set.get("off")) alike++;
        }
        if (alike >= set.get("needs")) all++;
      }
    }
    return all;
  }

  // ---- RULES

  int rules() {
    if (tape.length() > 400) return -2;
    Reader r = new Reader(tape, ";-()<>=+");
    tape = "";
    List<Rule> read = new ArrayList<>();
    try {
      while (r.here().kind() != '$') {
        if (read.size() == 6) throw r.cant();
        r.take("trust");
        int trust = r.number(0, 99);
        r.take("when");
        read.add(new Rule(trust, either(r, 0)));
        r.take(";");
      }
    } catch (Fault f) {
      return bad(f);
    }
    good();
    rules = read;
    units = r.units;
    return rules.size();
  }

  private ToIntFunction<Map<String, Integer>> either(Reader r, int within) {
    List<ToIntFunction<Map<String, Integer>>> all = new ArrayList<>(List.of(both(r, within)));
    while (r.is("or")) {
      r.at++;
      all.add(both(r, within));
    }
    return all.size() == 1 ? all.get(0) : v -> all.stream().anyMatch(f -> f.applyAsInt(v) != 0) ? 1 : 0;
  }

  private ToIntFunction<Map<String, Integer>> both(Reader r, int within) {
    List<ToIntFunction<Map<String, Integer>>> all = new ArrayList<>(List.of(one(r, within)));
    while (r.is("and")) {
      r.at++;
      all.add(one(r, within));
    }
    return all.size() == 1 ? all.get(0) : v -> all.stream().allMatch(f -> f.applyAsInt(v) != 0) ? 1 : 0;
  }

  private ToIntFunction<Map<String, Integer>> one(Reader r, int within) {
    if (r.is("not")) {
      if (within == 7) throw r.cant();
      r.at++;
      ToIntFunction<Map<String, Integer>> f = one(r, within + 1);
      return v -> f.applyAsInt(v) == 0 ? 1 : 0;
    }
    ToIntFunction<Map<String, Integer>> a = sum(r, within);
    String sign = r.here().kind() == 's' ? r.here().text() : "";
    if (!"<>=".contains(sign) || sign.isEmpty()) return a;
    r.at++;
    ToIntFunction<Map<String, Integer>> b = sum(r, within);
    return v -> {
      int order = Integer.compare(a.applyAsInt(v), b.applyAsInt(v));
      return order == "<=>".indexOf(sign) - 1 ? 1 : 0;
    };
  }

  private ToIntFunction<Map<String, Integer>> sum(Reader r, int within) {
    ToIntFunction<Map<String, Integer>> all = unit(r, within);
    while (r.is("+") || r.is("-")) {
      int by = r.is("+") ? 1 : -1;
      r.at++;
      ToIntFunction<Map<String, Integer>> before = all;
      ToIntFunction<Map<String, Integer>> more = unit(r, within);
      all = v -> before.applyAsInt(v) + by * more.applyAsInt(v);
    }
    return all;
  }

  private ToIntFunction<Map<String, Integer>> unit(Reader r, int within) {
    Token t = r.here();
    boolean word = t.kind() == 'w' && Set.of("dots", "named", "namings", "specks", "smears", "told", "stretch", "light").contains(t.text());
    if (!word && t.kind() != 'n' && !r.is("(")) throw r.cant();
    if (r.units == 40 || r.is("(") && within == 7) throw r.cant();
    r.units++;
    r.at++;
    if (word) return v -> v.get(t.text());
    if (t.kind() == 'n') return v -> Integer.parseInt(t.text());
    ToIntFunction<Map<String, Integer>> f = either(r, within + 1);
    r.take(")");
    return f;
  }

  int trust(int picture, int k) {
    if (!counts(picture, k)) return -1;
    Map<String, Integer> v = new HashMap<>();
    v.put("dots", dots(picture, 0, k));
    v.put("smears", dots(picture, 1, k));
    v.put("specks", dots(picture, 2, k));
    v.put("namings", namings(picture, 0, k));
    v.put("named", namings(picture, 1, k));
    v.put("told", told(picture, k));
    long stretch = stretch(picture, 0, k);
    v.put("stretch", stretch == GAP ? 0 : (int) stretch);
    v.put("light", dotsOf(picture).stream().mapToInt(Dot::light).sum());
    for (Rule rule : rules) if (rule.when().applyAsInt(v) != 0) return rule.trust();
    return 0;
  }

  int believed(int k) {
    int best = -1;
    for (int p = 0; p < pictures.size(); p++) {
      if (counts(p, k) && (best < 0 || trust(p, k) >= trust(best, k))) best = p;
    }
    return best;
  }

  int image(int box) {
    if (box < 0 || box > 2) return -1;
    boxes.put(box, new Kept(new ArrayList<>(pictures), new TreeMap<>(untold), new TreeSet<>(speckless), time));
    return pictures.size();
  }

  int back(int box) {
    if (!boxes.containsKey(box)) return -1;
    Kept kept = boxes.get(box);
    pictures = new ArrayList<>(kept.pictures());
    untold = new TreeMap<>(kept.untold());
    speckless = new TreeSet<>(kept.speckless());
    time = kept.time();
    return pictures.size();
  }

  int about(int what) {
    return switch (what) {
      case 0 -> stars.size();
      case 1 -> pictures.size();
      case 2 -> rules.size();
      case 3 -> time;
      case 4 -> tape.length();
      case 5 -> units;
      case 6 -> speckless.size();
      default -> -1;
    };
  }
}
