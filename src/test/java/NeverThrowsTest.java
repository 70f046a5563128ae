import java.util.Random;

/** No call may ever throw: any numbers in any state, through every method, with texts of any bytes. */
final class NeverThrowsTest {
  private static final int[] EDGES = {Integer.MIN_VALUE, Integer.MIN_VALUE + 1, -1000000, -1000, -2, -1, 0, 1, 2, 3, 5, 6, 11, 12, 13, 31, 32,
      63, 199, 200, 999, 1000, 1500, 99999, 100000, Integer.MAX_VALUE - 1, Integer.MAX_VALUE};

  public static void main(String[] args) {
    int thrown = 0;
    for (int seed = 0; seed < 400 && thrown < 5; seed++) {
      Random r = new Random(seed);
      Check c = new Check();
      if (r.nextInt(3) != 0) c.book(book(r));
      for (int call = 0; call < 480; call++) {
        try {
          call(c, r);
        } catch (RuntimeException | StackOverflowError e) {
          thrown++;
          e.printStackTrace(System.out);
        }
      }
    }
    Check.due("calls that threw", thrown, 0);
    Check.finish("NeverThrowsTest");
  }

  private static int any(Random r) {
    return switch (r.nextInt(4)) {
      case 0 -> EDGES[r.nextInt(EDGES.length)];
      case 1 -> r.nextInt();
      default -> r.nextInt(8) - 1;
    };
  }

  private static String book(Random r) {
    StringBuilder all = new StringBuilder("eye wide " + (4 + r.nextInt(13)) + " unit " + (1 + r.nextInt(9)) + " far 300;off 5;");
    for (int i = 0; i < 32 && all.length() < 1400; i++) {
      all.append("star x").append((char) ('a' + i % 26)).append(i < 26 ? "" : "y").append(" at ");
      all.append(20 * (i % 6)).append(' ').append(20 * (i / 6)).append(" light 1;");
      if (r.nextInt(20) == 0) break;
    }
    return all.toString();
  }

  private static String bytes(Random r) {
    StringBuilder all = new StringBuilder();
    String signs = "0123456789;;-()<>=+ trust when dots not ";
    boolean wild = r.nextInt(4) == 0;
    for (int i = r.nextInt(420); i > 0; i--) all.append(wild ? (char) r.nextInt(256) : signs.charAt(r.nextInt(signs.length())));
    return all.toString();
  }

  private static String pixels(Random r, StarEye eye) {
    int wide = 4;
    while (wide < 16 && eye.speckless(wide, 0, true)) wide++;
    StringBuilder all = new StringBuilder();
    for (int y = 0; y < wide; y++) {
      for (int x = 0; x < wide; x++) all.append(r.nextInt(3) == 0 ? r.nextInt(10) : 0);
      all.append(';');
    }
    for (int x = 4; x < 16; x++) eye.speckless(x, 0, false);
    return all.toString();
  }

  private static void call(Check c, Random r) {
    StarEye e = c.eye;
    int a = any(r);
    int b = any(r);
    int d = any(r);
    int f = any(r);
    int g = any(r);
    int k = r.nextInt(3) == 0 ? g : e.about(3);
    switch (r.nextInt(40)) {
      case 0: e.feed(a, b, d, f, g); break;
      case 1: e.end(a); break;
      case 2: if (r.nextInt(8) == 0) e.book(); break;
      case 3: e.end(0); c.picture(bytes(r)); break;
      case 4: e.end(0); c.rules(bytes(r)); break;
      case 5: e.end(0); c.rules("trust 5 when stretch + light > 5 and not (told or dots < named);"); break;
      case 6: case 7: case 8: e.end(0); c.picture(pixels(r, e)); break;
      case 9: e.fault(a); break;
      case 10: e.untell(a); break;
      case 11: e.later(a); break;
      case 12: e.speckless(a, b, r.nextBoolean()); break;
      case 13: e.dots(a, b, k); break;
      case 14: e.dot(a, b, d, k); break;
      case 15: e.point(a, b, k); break;
      case 16: e.length(a, b); break;
      case 17: e.namings(a, b, k); break;
      case 18: e.named(a, b, d, k); break;
      case 19: e.odds(a, b, d, k); break;
      case 20: e.told(a, k); break;
      case 21: e.turn(a, b, d, k); break;
      case 22: e.look(a, b, d, f, k); break;
      case 23: e.stretch(a, b, k); break;
      case 24: e.followed(a, b, d, f, r.nextInt(3), k); break;
      case 25: e.follow(a, b, d, f, r.nextInt(13), k); break;
      case 26: e.wanderers(a, k); break;
      case 27: e.shift(a, b, d, r.nextInt(2), k); break;
      case 28: e.liar(a, b, d); break;
      case 29: e.looks(a); break;
      case 30: e.chosen(a); break;
      case 31: e.held(a); break;
      case 32: e.doubles(); break;
      case 33: e.trust(a, k); break;
      case 34: e.believed(k); break;
      case 35: e.image(a); break;
      case 36: e.back(a); break;
      case 37: e.about(a); break;
      case 38: e.rules(); break;
      default: e.picture(); break;
    }
  }
}
