import java.lang.management.ManagementFactory;

/** All calls live in one room: the constructor makes little, the calls after it nothing at all. */
public final class RoomTests {
  public static void main(String[] args) {
    com.sun.management.ThreadMXBean bean = (com.sun.management.ThreadMXBean) ManagementFactory.getThreadMXBean();
    use(new BeginningsFilter());
    long before = bean.getCurrentThreadAllocatedBytes();
    BeginningsFilter x = new BeginningsFilter();
    long made = bean.getCurrentThreadAllocatedBytes() - before;
    before = bean.getCurrentThreadAllocatedBytes();
    long idle = bean.getCurrentThreadAllocatedBytes() - before;
    before = bean.getCurrentThreadAllocatedBytes();
    use(x);
    long used = bean.getCurrentThreadAllocatedBytes() - before - idle;
    boolean fits = made < 40000 && used < 1000;
    System.out.println("RoomTests: " + made + " bytes made by the constructor, " + used + " by calls"
        + (fits ? "" : ": too much"));
    if (!fits) System.exit(1);
  }

  private static void use(BeginningsFilter x) {
    x.feed(0x626f7468, 0, 0, 0, 0);
    x.end(4);
    x.mode();
    for (int i = 0; i < 20; i++) {
      x.fill(8, 8);
      x.build();
      x.image(i % 2 == 0);
      x.feed(0x01620361, 0, 0, 0, 0);
      x.keys();
      x.storm(50, 4);
      x.stormRange(50, 4, 9);
      x.question(i, i, 8);
      x.tuned(16, 2);
      x.spread(0, 0, 2, 0);
      x.report(-1);
      x.report(0);
      x.cover(7);
      x.free(1, 7);
      x.since(1);
      x.rank(0);
      x.select(0);
    }
  }
}
