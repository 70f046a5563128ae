import java.lang.management.ManagementFactory;

/** All calls of a run live in one room of 7.3 million fields and elements: the dearest calls must take little of it. */
final class RoomTest {
  private static final com.sun.management.ThreadMXBean BEAN = (com.sun.management.ThreadMXBean) ManagementFactory.getThreadMXBean();

  private static long taken() {
    return BEAN.getThreadAllocatedBytes(Thread.currentThread().getId());
  }

  public static void main(String[] args) {
    StarEye warm = new StarEye();
    work(warm, 3);
    long before = taken();
    StarEye[] all = new StarEye[50];
    for (int i = 0; i < all.length; i++) all[i] = new StarEye();
    long each = (taken() - before) / all.length;
    System.out.println("a new object takes " + each + " bytes");
    Check.due("a new object takes less than 40000 bytes", each < 40000, true);

    StarEye eye = new StarEye();
    Check.put(eye, "eye wide 4 unit 9 far 9;noise 0;" );
    eye.book();
    eye.image(0);
    before = taken();
    for (int i = 0; i < 128; i++) {
      eye.feed(0x39303930, 0x3b303930, 0x393b3930, 0x39303b30, 0x3930393b);
      if (eye.picture() < 0) Check.due("picture " + i, -1, 0);
      eye.namings(0, 0, 0);
      eye.back(0);
    }
    long pictures = (taken() - before) / 128;
    System.out.println("a picture takes " + pictures + " bytes");
    Check.due("a picture takes less than 4000 bytes", pictures < 4000, true);

    eye = new StarEye();
    work(eye, 1);
    before = taken();
    work(eye, 300);
    long asked = taken() - before;
    System.out.println("300 rounds of questions take " + asked + " bytes");
    Check.due("questions take nothing", asked < 2000, true);
    Check.finish("RoomTest");
  }

  /** Every call that only asks, and those that change what is there already. */
  private static void work(StarEye e, int rounds) {
    if (e.about(0) == 0) {
      Check.put(e, "eye wide 16 unit 5 far 100;star a at 100 100 light 1;star b at 140 100 light 1;star c at 100 130 light 1;");
      e.book();
      for (int i = 0; i < 3; i++) {
        Check.put(e, Check.rows(16, 2, 2, 9, 10, 2, 8, 2, 8, 7, 4 + i, 9, 5));
        e.picture();
      }
      Check.put(e, "trust 5 when stretch > 5 and told + named < (light - 3) or not specks;");
      e.rules();
    }
    for (int i = 0; i < rounds; i++) {
      e.speckless(i % 16, 2, i % 32 < 16);
      e.speckless(2, 2, i % 2 == 0);
      e.dots(0, 3, 0);
      e.dot(0, 0, 3, 0);
      e.point(0, 1, 0);
      e.length(0, 1);
      e.namings(0, 0, 0);
      e.named(0, 0, 0, 0);
      e.odds(0, 0, 0, 0);
      e.told(0, 0);
      e.turn(0, 0, 0, 0);
      e.look(0, 0, 0, 0, 0);
      e.stretch(0, 0, 0);
      e.followed(0, 1, 0, 0, 0, 0);
      e.follow(0, 1, 0, 0, 0, 0);
      e.wanderers(0, 0);
      e.shift(0, 1, 0, 0, 0);
      e.liar(1, 2, i);
      e.looks(1);
      e.chosen(1);
      e.held(i);
      e.doubles();
      e.trust(0, 0);
      e.believed(0);
      e.image(i % 3);
      e.back(i % 3);
      e.about(i % 7);
      e.fault(0);
      e.end(0);
    }
  }
}
