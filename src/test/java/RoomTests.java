import java.lang.management.ManagementFactory;

/** All calls of a run live in one room: what they make is counted, and that all numbers are answered. */
public final class RoomTests {
  private static final com.sun.management.ThreadMXBean MEASURE =
      (com.sun.management.ThreadMXBean) ManagementFactory.getThreadMXBean();
  /** 7.3 million elements of four bytes, for some 20 objects in one run. */
  private static final long ROOM_OF_ONE = 7300000L * 4 / 20;

  public static void main(String[] args) {
    int[] odd = {0, 1, -1, 2, 7, 8, 20, 40, 255, 65536, Integer.MAX_VALUE, Integer.MIN_VALUE};
    long sum = askAll(new HillErrands(), odd);
    long before = MEASURE.getCurrentThreadAllocatedBytes();
    HillErrands full = full();
    sum += dearest(full);
    long first = MEASURE.getCurrentThreadAllocatedBytes() - before;
    sum += dearest(full) + dearest(full);
    long all = MEASURE.getCurrentThreadAllocatedBytes() - before;
    System.out.println("a full town and its dearest calls: " + first + " bytes, asked again: " + (all - first));
    sum += askAll(full, odd);
    boolean fits = all <= ROOM_OF_ONE && all - first < 20000;
    System.out.println((fits ? "all fits" : "too much") + " (" + sum + ")");
    System.exit(fits ? 0 : 1);
  }

  /** 20 places, 40 stairs, eight of all else, and a law that hangs on the load. */
  private static HillErrands full() {
    HillErrands x = new HillErrands();
    for (int i = 0; i < 20; i++) {
      x.place(10 * (i * 7 % 20));
    }
    for (int i = 0; i < 40; i++) {
      x.stair(i % 20, (i * 3 + 1 + i / 20 * 5) % 20, i % 2 * 2);
    }
    String law = "cu*[l+10]/10+[[[[k*l%7]]]]+1(!(u>0&l<3)|(d>0|w=0));n(l>98)aaaaaaaaaaaaaaaaaaaaa";
    for (int at = 0; at < 60; at += 20) {
      int[] five = new int[5];
      for (int i = 0; i < 20; i++) {
        five[i / 4] = five[i / 4] << 8 | law.charAt(at + i);
      }
      x.feed(five[0], five[1], five[2], five[3], five[4]);
    }
    if (x.law(law.indexOf("aaaa")) != 2) {
      throw new IllegalStateException("no law");
    }
    int[] weights = {1, 2, 4, 8, 12, 12, 11, 7};
    for (int i = 0; i < 8; i++) {
      x.errand(i, i * 2 + 1, weights[i], 100 + i);
      x.person(i, 19 - i, 30 + i);
      x.thing(i, i + 3, 17 - i, 12 * i);
    }
    for (int p = 0; p < 20; p++) {
      x.wants(p, 5 * p);
    }
    for (int i = 0; i < 30; i++) {
      x.fare(i % 20, (i + 7) % 20, i % 5);
    }
    return x;
  }

  private static long dearest(HillErrands x) {
    long sum = 0;
    for (int i = 0; i < 20; i++) {
      x.season(i % 4);
      sum += x.day(i, 99999, 2) + x.best(i, 255, 7) + x.sent(255, 10) + x.water(i, 2) + x.shop(3, 2);
      sum += x.themselves(i + 20 * 5 + 400 * 3, 3, 20) + x.oneMore(i % 3, 2) + x.meet(i, 3, 1) + x.draw(i, 20, 1);
      sum += x.way(i, 3, i, 20) + x.check(i, 1) + x.brought(1, 2) + x.shops(7);
    }
    return sum;
  }

  /** Every call with odd numbers at each place: none may throw. */
  private static long askAll(HillErrands x, int[] odd) {
    long sum = 0;
    for (int a : odd) {
      sum += x.place(a) + x.law(a) + x.shops(a) + x.falseFares(a) + x.count(a) + x.keep();
      sum += (x.season(a) ? 1 : 0) + (x.seed(a) ? 1 : 0) + (x.undo() ? 1 : 0) + x.feed(a, a, a, a, a);
      for (int b : odd) {
        sum += x.round(a, b) + x.brought(a, b) + x.sent(a, b) + (x.wants(a, b) ? 1 : 0) + x.water(a, b);
        sum += x.shop(a, b) + x.oneMore(a, b) + x.ends(a, b) + x.check(a, b);
        for (int c : odd) {
          sum += x.stair(a, b, c) + x.going(a, c > 0, b) + x.best(a, b, c) + x.day(a, b, c) + x.person(a, b, c);
          sum += x.themselves(a, b, c) + x.meet(a, b, c) + x.fare(a, b, c) + x.draw(a, b, c);
          for (int d : odd) {
            sum += x.way(a, b, c, d) + (x.errand(a, b, c, d) ? 1 : 0) + (x.thing(a, b, c, d) ? 1 : 0);
          }
        }
      }
    }
    return sum;
  }
}
