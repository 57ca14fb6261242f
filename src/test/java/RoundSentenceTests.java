import java.io.IOException;
import java.util.ArrayList;
import java.util.Arrays;
import java.util.List;

/** The sentences about errands, rounds, days and drawings: promises 9 to 12, 27 and 28. */
public final class RoundSentenceTests {
  public static void main(String[] args) throws IOException {
    errandBounds();
    errandInPlace();
    roundCosts();
    roundLoads();
    roundLengths();
    roundErrands();
    roundWithoutWay();
    bestOrder();
    bestOfEachOrder();
    bestOfAllOrders();
    bestOfLikeOnes();
    bestSets();
    bestWhats();
    bestWithoutWay();
    separate();
    dayBounds();
    dayWorth();
    dayOfLikeOnes();
    dayWays();
    seed();
    drawnNumbers();
    drawnSets();
    drawnRounds();
    drawRefused();
    Ask.finish(args);
  }

  /** Level places 0, 1, 2, 3 in a row; each stair costs one more than the load. */
  private static HillErrands loaded() {
    HillErrands x = Ask.level(4);
    Ask.row(x, 0, 0, 1, 2, 3);
    Ask.law(x, "c1+l(0=0)");
    return x;
  }

  /** Errands 0 (weight 5, at 1), 1 (weight 2, at 2) and 2 (weight 9, at 0). */
  private static HillErrands three() {
    HillErrands x = loaded();
    x.errand(0, 1, 5, 10);
    x.errand(1, 2, 2, 20);
    x.errand(2, 0, 9, 0);
    return x;
  }

  // ---- promise 9

  private static void errandBounds() {
    Ask.sentence("ERRANDS 0 to 7: at a PLACE, a WEIGHT (0 to 12) that is LOAD from there on, a WORTH (0 to 999).");
    HillErrands x = loaded();
    int[][] odd = {{8, 1, 0, 0}, {-1, 1, 0, 0}, {32, 1, 0, 0}, {0, 4, 0, 0}, {0, -1, 0, 0}, {0, 1, 13, 0}, {0, 1, -1, 0},
        {0, 1, 0, 1000}, {0, 1, 0, -1}};
    for (int[] a : odd) {
      Ask.due("errand(" + a[0] + ", " + a[1] + ", " + a[2] + ", " + a[3] + ")", x.errand(a[0], a[1], a[2], a[3]), false);
      Ask.due("none is told", x.count(5), 0);
    }
    for (int far : Ask.extremes()) {
      Ask.due("number " + far, x.errand(far, 1, 0, 0), false);
      Ask.due("PLACE " + far, x.errand(0, far, 0, 0), false);
      Ask.due("WEIGHT " + far, x.errand(0, 1, far, 0), false);
      Ask.due("WORTH " + far, x.errand(0, 1, 0, far), false);
    }
    Ask.due("none is told", x.count(5), 0);
    int bits = 0;
    for (int i = 0; i < 8; i++) {
      Ask.due("errand " + i, x.errand(i, i % 4, i % 2 * 12, i % 3 == 0 ? 999 : 0), true);
      bits |= 1 << i;
      Ask.due("told", x.count(5), bits);
    }
    Ask.due("WEIGHT 12", x.best(0, 2, -1), 1 + 13);
    Ask.due("WEIGHT 0", x.best(0, 4, -1), 4);
    Ask.due("WORTH 999 of three", x.day(0, 99999, 0), 3 * 999);
  }

  private static void errandInPlace() {
    Ask.sentence("An ERRAND (in place of the one before): true; false: no such ones.");
    HillErrands x = loaded();
    x.errand(7, 1, 12, 999);
    Ask.due("as told", x.best(0, 128, -1), 14);
    for (int[] a : new int[][] {{7, 4, 0, 0}, {7, 2, 13, 0}, {7, 2, 0, 1000}, {7, 2, -1, 0}, {7, -1, 0, 0}, {7, 2, 0, -1}}) {
      Ask.due("refused", x.errand(a[0], a[1], a[2], a[3]), false);
      Ask.due("as told before", x.best(0, 128, -1), 14);
      Ask.due("as told before", x.day(0, 14, 0), 999);
      Ask.due("as told before", x.day(0, 13, 0), 0);
    }
    Ask.due("in place", x.errand(7, 2, 1, 5), true);
    Ask.due("PLACE and WEIGHT", x.best(0, 128, -1), 2 + 4);
    Ask.due("WORTH", x.day(0, 6, 0), 5);
    Ask.due("one", x.count(5), 128);
    Ask.due("by the round, too", Ask.round(x, 0, 7), 6);
  }

  // ---- promise 10

  private static void roundCosts() {
    Ask.sentence("from HOME with LOAD 0 to the first one, with its WEIGHT more to the next, and so on, and home: COSTS together.");
    HillErrands x = three();
    Ask.due("0", Ask.round(x, 0, 0), 1 + 6);
    Ask.due("1", Ask.round(x, 0, 1), 2 + 2 * 3);
    Ask.due("2, at home", Ask.round(x, 0, 2), 0);
    Ask.due("0, 1", Ask.round(x, 0, 0, 1), 1 + 6 + 2 * 8);
    Ask.due("1, 0", Ask.round(x, 0, 1, 0), 2 + 3 + 8);
    Ask.due("2, 0, 1", Ask.round(x, 0, 2, 0, 1), 10 + 15 + 2 * 17);
    Ask.due("0, 1, 2", Ask.round(x, 0, 0, 1, 2), 1 + 6 + 2 * 8);
    Ask.due("0, 2, 1", Ask.round(x, 0, 0, 2, 1), 1 + 6 + 2 * 15 + 2 * 17);
    Ask.due("from 3", Ask.round(x, 3, 0, 1), 2 + 6 + 8);
    Ask.due("from 1", Ask.round(x, 1, 0), 0);
    Ask.due("from 2", Ask.round(x, 2, 0, 1), 1 + 6);
    // the way home is that of the load, not the way back
    HillErrands y = Ask.town(0, 40);
    y.stair(0, 1, 0);
    y.errand(0, 1, 0, 0);
    Ask.due("up, and home for nothing", Ask.round(y, 0, 0), 40);
    y.errand(0, 0, 0, 0);
    Ask.due("down for nothing, and home", Ask.round(y, 1, 0), 40);
  }

  private static void roundLoads() {
    Ask.sentence("a WEIGHT (0 to 12) that is LOAD from there on");
    // eight of weight 12: the last going has load 96
    HillErrands x = loaded();
    int due = 1;
    for (int i = 0; i < 8; i++) {
      x.errand(i, 1 + i % 2, 12, 1);
      due += i < 7 ? 1 + 12 * (i + 1) : 0;
    }
    due += 2 * 97;
    Ask.due("all", Ask.round(x, 0, 0, 1, 2, 3, 4, 5, 6, 7), due);
    Ask.law(x, "n(l>95)");
    Ask.due("96 is too much", Ask.round(x, 0, 0, 1, 2, 3, 4, 5, 6, 7), -2);
    Ask.due("best, too", x.best(0, 255, -1), -2);
    Ask.due("84 is not", Ask.round(x, 0, 0, 1, 2, 3, 4, 5, 6), 0);
    Ask.law(x, "n(l>96)");
    Ask.due("96 is not", Ask.round(x, 0, 0, 1, 2, 3, 4, 5, 6, 7), 0);
    Ask.due("best, too", x.best(0, 255, -1), 0);
    Ask.law(x, "n(l=0)");
    Ask.due("LOAD 0 to the first one", Ask.round(x, 0, 0, 1), -2);
    Ask.due("LOAD 12 to the second one", Ask.round(x, 1, 0, 1), 0);
  }

  private static void roundLengths() {
    Ask.sentence("A ROUND from a HOME by the first n bytes of the tape (ERRANDS, 1 to 8, all different; empty then): its COST");
    HillErrands x = three();
    for (int i = 3; i < 8; i++) {
      x.errand(i, 0, 0, 0);
    }
    Ask.due("of an empty tape", x.round(0, 1), -1);
    Ask.tape(x, 0, 1, 2, 3, 4, 5, 6, 7, 0, 1, 2);
    Ask.due("n 0", x.round(0, 0), -1);
    Ask.due("n 9", x.round(0, 9), -1);
    Ask.due("n -1", x.round(0, -1), -1);
    Ask.due("n 20", x.round(0, 20), -1);
    Ask.due("no such HOME", x.round(4, 8), -1);
    Ask.due("no such HOME", x.round(-1, 8), -1);
    for (int far : Ask.extremes()) {
      Ask.due("n " + far, x.round(0, far), -1);
      Ask.due("HOME " + far, x.round(far, 1), -1);
    }
    Ask.due("the tape stays", x.count(3), 20);
    Ask.due("n 8", x.round(0, 8), 23);
    Ask.due("empty then", x.count(3), 0);
    Ask.due("of an empty tape", x.round(0, 1), -1);
    Ask.tape(x, 1, 0, 0, 0);
    Ask.due("the first alone", x.round(0, 1), 8);
    Ask.due("empty then", x.count(3), 0);
    Ask.tape(x, 1, 0, 0, 0);
    Ask.due("the first two", x.round(0, 2), 13);
    Ask.tape(x, 7, 6, 5, 4, 3, 2, 1, 0);
    Ask.due("the first five", x.round(0, 5), 0);
    Ask.tape(x, 7, 6, 5, 4, 3, 2, 1, 0);
    Ask.due("seven", x.round(0, 7), 2 * 10 + 2 * 12);
    Ask.tape(x, 0, 1);
    Ask.tape(x, 1, 0);
    Ask.due("the first ones of more", x.round(0, 2), 23);
    Ask.due("empty then", x.count(3), 0);
  }

  private static void roundErrands() {
    Ask.sentence("-2: a way is not there; -3: no such ERRANDS, one twice; NONE: no such ones, it has not so many (the tape stays).");
    HillErrands x = three();
    for (int e : new int[] {3, 7, 8, 9, 127, 128, 254, 255}) {
      Ask.due("ERRAND " + e, Ask.round(x, 0, e), -3);
      Ask.due("empty then", x.count(3), 0);
      Ask.due("ERRAND " + e + " at last", Ask.round(x, 0, 0, 1, e), -3);
      Ask.due("empty then", x.count(3), 0);
    }
    Ask.due("twice", Ask.round(x, 0, 0, 0), -3);
    Ask.due("twice", Ask.round(x, 0, 0, 1, 0), -3);
    Ask.due("twice", Ask.round(x, 0, 1, 0, 2, 2), -3);
    Ask.due("empty then", x.count(3), 0);
    for (int i = 3; i < 8; i++) {
      x.errand(i, 0, 0, 0);
    }
    Ask.due("the first is the last", Ask.round(x, 0, 7, 6, 5, 4, 3, 2, 1, 7), -3);
    Ask.due("none is told", Ask.round(Ask.level(1), 0, 0), -3);
    Ask.due("NONE ahead of -3", x.round(4, 1), -1);
    Ask.tape(x, 200);
    Ask.due("NONE ahead of -3", x.round(4, 1), -1);
    Ask.due("NONE ahead of -3", x.round(0, 9), -1);
    Ask.due("the tape stays", x.count(3), 20);
    Ask.due("-3 then", x.round(0, 1), -3);
  }

  private static void roundWithoutWay() {
    Ask.sentence("in round() -3 ahead of -2;");
    HillErrands x = three();
    int lone = x.place(5);
    x.errand(3, lone, 0, 0);
    Ask.due("no way to it", Ask.round(x, 0, 3), -2);
    Ask.due("empty then", x.count(3), 0);
    Ask.due("no way to the last one", Ask.round(x, 0, 0, 1, 3), -2);
    Ask.due("-3 ahead of -2", Ask.round(x, 0, 3, 3), -3);
    Ask.due("-3 ahead of -2", Ask.round(x, 0, 3, 4), -3);
    Ask.due("-3 ahead of -2", Ask.round(x, 0, 3, 255), -3);
    Ask.due("-3 ahead of -2", Ask.round(x, 0, 0, 3, 0), -3);
    Ask.tape(x, 3);
    Ask.due("NONE ahead of -2", x.round(0, 9), -1);
    Ask.due("NONE ahead of -2", x.round(5, 1), -1);
    Ask.due("from there", Ask.round(x, lone, 3), 0);
    HillErrands y = Ask.town(10, 0);
    y.stair(0, 1, 1);
    y.errand(0, 1, 0, 0);
    y.errand(1, 0, 0, 0);
    Ask.due("there, but not home", Ask.round(y, 0, 0), -2);
    Ask.due("not there", Ask.round(y, 1, 1), -2);
    Ask.due("not on", Ask.round(y, 0, 0, 1), -2);
  }

  // ---- promise 11

  private static void bestOrder() {
    Ask.sentence("BEST: the order of least COST; of like ones the least row.");
    HillErrands x = three();
    Ask.due("COST of 0, 1", x.best(0, 3, -1), 13);
    Ask.due("first", x.best(0, 3, 0), 1);
    Ask.due("second", x.best(0, 3, 1), 0);
    // 2 weighs 9 and lies at home: it is the last
    Ask.due("COST of all", x.best(0, 7, -1), 13);
    Ask.due("first", x.best(0, 7, 0), 1);
    Ask.due("second", x.best(0, 7, 1), 0);
    Ask.due("third", x.best(0, 7, 2), 2);
    Ask.due("from 3: COST", x.best(3, 3, -1), 2 + 6 + 8);
    Ask.due("from 3: first", x.best(3, 3, 0), 0);
    Ask.due("from 1: COST", x.best(1, 3, -1), 1 + 3);
    Ask.due("from 1: first", x.best(1, 3, 0), 1);
    // each alone
    for (int i = 0; i < 3; i++) {
      Ask.due("alone", x.best(0, 1 << i, -1), i == 0 ? 7 : i == 1 ? 8 : 0);
      Ask.due("alone", x.best(0, 1 << i, 0), i);
    }
  }

  /** A ring that one can go in one direction alone: the errands are best done as they stand in it. */
  private static void bestOfEachOrder() {
    Ask.sentence("BEST: the order of least COST;");
    int[][] orders = {{0, 1, 2}, {0, 2, 1}, {1, 0, 2}, {1, 2, 0}, {2, 0, 1}, {2, 1, 0}, {0, 1, 2, 3, 4, 5, 6, 7},
        {7, 6, 5, 4, 3, 2, 1, 0}, {3, 0, 7, 5, 1, 6, 2, 4}, {4, 7, 1, 0, 6, 3, 5, 2}};
    for (int[] order : orders) {
      int n = order.length;
      HillErrands x = Ask.level(n + 1);
      for (int p = 0; p <= n; p++) {
        x.stair(p, (p + 1) % (n + 1), 1);
      }
      Ask.law(x, "c1(0=0)");
      for (int i = 0; i < n; i++) {
        x.errand(order[i], i + 1, 12, 1);
      }
      int all = (1 << n) - 1;
      Ask.due("COST", x.best(0, all, -1), n + 1);
      Ask.due("SEPARATE", x.best(0, all, 10), n * (n + 1));
      for (int i = 0; i < n; i++) {
        Ask.due("ERRAND at " + i, x.best(0, all, i), order[i]);
      }
      Ask.due("a day", x.day(0, n + 1, 1), all);
      Ask.due("a day's COST", x.day(0, n + 1, 2), n + 1);
      Ask.due("a day of one step less", x.day(0, n, 1), 0);
      Ask.due("once round more", Ask.round(x, 0, order[1], order[0]), 2 * (n + 1));
    }
  }

  /** Towns in which the load turns the orders round: all orders of all sets are asked by round(). */
  private static void bestOfAllOrders() {
    for (int run = 0; run < 60; run++) {
      HillErrands x = mixedTown(run);
      int[] cost = new int[16];
      int[][] row = new int[16][];
      for (int[] order : orders(4)) {
        Ask.tape(x, order);
        int set = 0;
        for (int e : order) {
          set |= 1 << e;
        }
        int so = x.round(0, order.length);
        if (so >= 0 && (row[set] == null || so < cost[set])) {
          cost[set] = so;
          row[set] = order;
        }
      }
      Ask.sentence("BEST: the order of least COST; of like ones the least row.");
      for (int set = 1; set < 16; set++) {
        Ask.due("COST of " + set + ", run " + run, x.best(0, set, -1), row[set] == null ? -2 : cost[set]);
        for (int i = 0; i < Integer.bitCount(set); i++) {
          Ask.due("ERRAND at " + i + " of " + set + ", run " + run, x.best(0, set, i), row[set] == null ? -2 : row[set][i]);
        }
      }
      Ask.sentence("of like ones of least COST, then the least set.");
      for (int steps : new int[] {0, 5, 9, 14, 20, 30, 50, 99999}) {
        int found = 0;
        for (int set = 1; set < 16; set++) {
          boolean more = mixedWorth(set) > mixedWorth(found) || mixedWorth(set) == mixedWorth(found) && cost[set] < cost[found];
          found = row[set] != null && cost[set] <= steps && more ? set : found;
        }
        Ask.due("WORTH by " + steps + ", run " + run, x.day(0, steps, 0), mixedWorth(found));
        Ask.due("set by " + steps + ", run " + run, x.day(0, steps, 1), found);
        Ask.due("COST by " + steps + ", run " + run, x.day(0, steps, 2), cost[found]);
      }
    }
  }

  private static int mixedWorth(int set) {
    return (set & 1) + 2 * (set >> 1 & 1) + 3 * (set >> 2 & 1) + 3 * (set >> 3 & 1);
  }

  private static HillErrands mixedTown(int run) {
    HillErrands x = Ask.town(0, 2, 5, 1, 9);
    Ask.row(x, 0, 0, 1, 2, 4);
    Ask.row(x, 2, 0, 3, 4);
    x.stair(2, 3, run % 2);
    x.stair(4, 1, 1);
    String[] laws = {"cu+l%5(0=0)", "c1+l*[s%3](0=0)", "n(l>9&k=2);cu+l/3(0=0)", "c1+[l*7+s]%4(0=0)", "c9(l=3);n(l=7&s=1);c1+k(0=0)"};
    Ask.law(x, laws[run % 5]);
    int[] weights = {run * 5 % 13, run * 7 % 11 + 1, 3 + run % 4, run % 2 * 7 + 1};
    for (int i = 0; i < 4; i++) {
      x.errand(i, (run / 3 + i * (1 + run % 3)) % 5, weights[i], mixedWorth(1 << i));
    }
    return x;
  }

  /** All rows of different numbers below n, in their order. */
  private static List<int[]> orders(int n) {
    List<int[]> all = new ArrayList<>();
    addOrders(all, new int[0], n);
    return all;
  }

  private static void addOrders(List<int[]> all, int[] row, int n) {
    for (int e = 0; e < n; e++) {
      boolean fresh = true;
      for (int before : row) {
        fresh &= before != e;
      }
      if (fresh) {
        int[] longer = Arrays.copyOf(row, row.length + 1);
        longer[row.length] = e;
        all.add(longer);
        addOrders(all, longer, n);
      }
    }
  }

  private static void bestOfLikeOnes() {
    Ask.sentence("of like ones the least row.");
    HillErrands x = loaded();
    for (int i = 0; i < 8; i++) {
      x.errand(i, i == 5 ? 1 : 2, 0, 1);
    }
    int[] row = {0, 1, 2, 3, 4, 5, 6, 7};
    Ask.due("COST", x.best(0, 255, -1), 4);
    // 5 lies on the way, there or back: the least row has it in its place or last
    int[] due = {0, 1, 2, 3, 4, 6, 7, 5};
    for (int i = 0; i < 8; i++) {
      Ask.due("ERRAND at " + i, x.best(0, 255, i), due[i]);
    }
    x.errand(5, 2, 0, 1);
    for (int i = 0; i < 8; i++) {
      Ask.due("ERRAND at " + i, x.best(0, 255, i), row[i]);
    }
    Ask.due("ERRAND at 0 of some", x.best(0, 0b10100100, 0), 2);
    Ask.due("ERRAND at 1 of some", x.best(0, 0b10100100, 1), 5);
    Ask.due("ERRAND at 2 of some", x.best(0, 0b10100100, 2), 7);
    Ask.due("no fourth", x.best(0, 0b10100100, 3), -1);
    // a less row of more COST is none of them
    x.errand(0, 2, 1, 1);
    x.errand(1, 3, 0, 1);
    Ask.due("the heavy one is the last", x.best(0, 3, 0), 1);
    Ask.due("it weighs on the way home alone", x.best(0, 3, -1), 3 + 1 + 4);
    x.errand(0, 2, 0, 1);
    Ask.due("of like COST the first again", x.best(0, 3, 0), 0);
  }

  private static void bestSets() {
    Ask.sentence("BEST for ERRANDS (bits, not empty)");
    HillErrands x = three();
    Ask.due("empty", x.best(0, 0, -1), -1);
    Ask.due("not told", x.best(0, 8, -1), -1);
    Ask.due("one of two is not told", x.best(0, 9, -1), -1);
    Ask.due("bit 8", x.best(0, 256, -1), -1);
    Ask.due("bit 8, too", x.best(0, 257, -1), -1);
    Ask.due("bit 30", x.best(0, 1 << 30 | 1, -1), -1);
    Ask.due("bit 31", x.best(0, 1 << 31 | 1, -1), -1);
    Ask.due("-1", x.best(0, -1, -1), -1);
    for (int far : Ask.extremes()) {
      Ask.due("ERRANDS " + far, x.best(0, far, -1), -1);
      Ask.due("HOME " + far, x.best(far, 1, -1), -1);
      Ask.due("what " + far, x.best(0, 1, far), -1);
    }
    Ask.due("HOME", x.best(4, 1, -1), -1);
    Ask.due("HOME", x.best(-1, 1, -1), -1);
    for (int i = 3; i < 8; i++) {
      x.errand(i, 0, 0, 0);
    }
    Ask.due("all", x.best(0, 255, -1), 13);
    Ask.due("none is told", Ask.level(1).best(0, 1, -1), -1);
  }

  private static void bestWhats() {
    Ask.sentence("what NONE its COST, 10 SEPARATE, else the ERRAND at place what; -2: a way is not there; NONE: no such ones, no such place.");
    HillErrands x = loaded();
    for (int i = 0; i < 8; i++) {
      x.errand(i, 1, 0, 1);
      int set = (2 << i) - 1;
      Ask.due("COST", x.best(0, set, -1), 2);
      Ask.due("SEPARATE", x.best(0, set, 10), 2 * (i + 1));
      for (int what = 0; what < 14; what++) {
        if (what != 10) {
          Ask.due("ERRAND at " + what + " of " + (i + 1), x.best(0, set, what), what <= i ? what : -1);
        }
      }
      Ask.due("what -2", x.best(0, set, -2), -1);
    }
  }

  private static void bestWithoutWay() {
    Ask.sentence("-2: a way is not there; NONE: no such ones, no such place.");
    HillErrands x = three();
    int lone = x.place(5);
    x.errand(3, lone, 0, 0);
    for (int what : new int[] {-1, 0, 10}) {
      Ask.due("no way to it, what " + what, x.best(0, 8, what), -2);
      Ask.due("no way to one, what " + what, x.best(0, 11, what), -2);
    }
    Ask.due("ERRAND at the last place", x.best(0, 11, 2), -2);
    Ask.due("NONE ahead of -2", x.best(0, 8, 1), -1);
    Ask.due("NONE ahead of -2", x.best(0, 11, 3), -1);
    Ask.due("NONE ahead of -2", x.best(0, 8, 11), -1);
    Ask.due("NONE ahead of -2", x.best(0, 8, -2), -1);
    Ask.due("NONE ahead of -2", x.best(5, 8, -1), -1);
    Ask.due("NONE ahead of -2", x.best(0, 8 + 16, -1), -1);
    Ask.due("from there", x.best(lone, 8, -1), 0);
    // not every order lacks a way
    Ask.law(x, "n(l>4&f=1&g=2)");
    Ask.due("one order is left", x.best(0, 3, -1), 0);
    Ask.due("its first", x.best(0, 3, 0), 1);
    Ask.due("the other one", Ask.round(x, 0, 0, 1), -2);
    HillErrands y = Ask.town(10, 0);
    y.stair(0, 1, 1);
    y.errand(0, 1, 0, 0);
    Ask.due("there, but not home", y.best(0, 1, -1), -2);
    Ask.due("there, but not home", y.best(0, 1, 10), -2);
    Ask.due("home, but not there", y.best(1, 1, -1), 0);
    y.errand(0, 0, 0, 0);
    Ask.due("not there", y.best(1, 1, -1), -2);
    Ask.due("not there", y.best(1, 1, 10), -2);
  }

  private static void separate() {
    Ask.sentence("SEPARATE: each one by itself, from HOME and back: COSTS together.");
    HillErrands x = three();
    Ask.due("0", x.best(0, 1, 10), 7);
    Ask.due("1", x.best(0, 2, 10), 8);
    Ask.due("2", x.best(0, 4, 10), 0);
    Ask.due("0 and 1", x.best(0, 3, 10), 15);
    Ask.due("all", x.best(0, 7, 10), 15);
    Ask.due("all from 1", x.best(1, 7, 10), 0 + 1 + 3 + 1 + 10);
    Ask.due("all from 3", x.best(3, 7, 10), 2 + 12 + 1 + 3 + 3 + 30);
  }

  // ---- promise 12

  private static void dayBounds() {
    Ask.sentence("A DAY of so many steps (0 to 99999)");
    HillErrands x = three();
    Ask.due("0", x.day(0, 0, 0), 0);
    Ask.due("99999", x.day(0, 99999, 0), 30);
    Ask.sentence("2 what their ROUND costs; NONE: no such ones.");
    Ask.due("100000", x.day(0, 100000, 0), -1);
    Ask.due("-1", x.day(0, -1, 0), -1);
    Ask.due("what 3", x.day(0, 0, 3), -1);
    Ask.due("what -1", x.day(0, 0, -1), -1);
    Ask.due("what 10", x.day(0, 0, 10), -1);
    Ask.due("HOME", x.day(4, 0, 0), -1);
    Ask.due("HOME", x.day(-1, 0, 0), -1);
    for (int far : Ask.extremes()) {
      Ask.due("HOME " + far, x.day(far, 0, 0), -1);
      Ask.due("steps " + far, x.day(0, far, 0), -1);
      Ask.due("what " + far, x.day(0, 0, far), -1);
    }
    Ask.sentence("A DAY of so many steps (0 to 99999)");
    // a round of 99999 steps, and one of 100000
    HillErrands y = Ask.level(12);
    Ask.row(y, 0, 0, 1, 2, 3, 4, 5, 6, 7, 8, 9, 10, 11);
    y.errand(4, 11, 0, 6);
    Ask.law(y, "c9999(s<10&g>f);c9(g>f);c0(0=0)");
    Ask.due("its ROUND", y.best(0, 16, -1), 99999);
    Ask.due("just enough", y.day(0, 99999, 1), 16);
    Ask.due("what it costs", y.day(0, 99999, 2), 99999);
    Ask.due("one less", y.day(0, 99998, 1), 0);
    Ask.law(y, "c9999(s<10&g>f);c10(g>f);c0(0=0)");
    Ask.due("its ROUND", y.best(0, 16, -1), 100000);
    Ask.due("never enough", y.day(0, 99999, 1), 0);
    Ask.due("never enough", y.day(0, 99999, 0), 0);
    Ask.due("never enough", y.day(0, 99999, 2), 0);
  }

  private static void dayWorth() {
    Ask.sentence("the ERRANDS (of all told ones) whose BEST ROUND does not cost more, of most WORTH together");
    HillErrands x = three();
    int[][] due = {{0, 0, 0, 0}, {6, 0, 0, 0}, {7, 10, 1, 7}, {8, 20, 2, 8}, {12, 20, 2, 8}, {13, 30, 3, 13}, {99999, 30, 3, 13}};
    for (int[] a : due) {
      for (int what = 0; what < 3; what++) {
        Ask.due("day(0, " + a[0] + ", " + what + ")", x.day(0, a[0], what), a[1 + what]);
      }
    }
    // 7 is told last and is of more WORTH than all others
    x.errand(7, 3, 0, 999);
    Ask.due("7 alone", x.day(0, 6, 1), 128);
    Ask.due("all for 17", x.day(0, 99999, 0), 1029);
    Ask.due("all for 17", x.day(0, 99999, 1), 131);
    Ask.due("all for 17", x.day(0, 99999, 2), x.best(0, 131, -1));
    x.errand(2, 0, 9, 1);
    Ask.due("a WORTH of 1 more", x.day(0, 99999, 1), 135);
    HillErrands one = loaded();
    one.errand(4, 1, 0, 1);
    Ask.due("a WORTH of 1 alone", one.day(0, 2, 1), 16);
    Ask.due("a WORTH of 1 alone", one.day(0, 2, 0), 1);
    Ask.due("a WORTH of 1 alone", one.day(0, 2, 2), 2);
    HillErrands y = loaded();
    for (int i = 0; i < 8; i++) {
      y.errand(i, 1, 0, 999);
    }
    Ask.due("all eight", y.day(0, 2, 0), 8 * 999);
    Ask.due("all eight", y.day(0, 2, 1), 255);
    Ask.due("all eight", y.day(0, 2, 2), 2);
    Ask.due("none", y.day(0, 1, 1), 0);
    Ask.due("none", y.day(0, 1, 0), 0);
    Ask.due("none", y.day(0, 1, 2), 0);
    HillErrands none = Ask.level(1);
    for (int what = 0; what < 3; what++) {
      Ask.due("no ERRANDS", none.day(0, 99999, what), 0);
    }
  }

  private static void dayOfLikeOnes() {
    Ask.sentence("of like ones of least COST, then the least set.");
    // with a load above 5 one can't go at all, so that of these two errands one can be done
    HillErrands x = loaded();
    Ask.law(x, "n(l>5)");
    x.errand(2, 1, 5, 10);
    x.errand(5, 1, 5, 10);
    Ask.due("the least set", x.day(0, 99999, 1), 4);
    x.errand(5, 1, 4, 10);
    Ask.due("the least set", x.day(0, 99999, 1), 4);
    Ask.law(x, "n(l>5);c1+l(0=0)");
    Ask.due("least COST", x.day(0, 99999, 1), 32);
    Ask.due("least COST", x.day(0, 99999, 2), 6);
    x.errand(5, 1, 4, 9);
    Ask.due("WORTH ahead of COST", x.day(0, 99999, 1), 4);
    x.errand(2, 1, 4, 10);
    x.errand(5, 1, 4, 10);
    Ask.due("the least set", x.day(0, 99999, 1), 4);
    // two of WORTH 5 together are like one of 10, and no other ones can be done with these
    HillErrands y = loaded();
    y.errand(0, 3, 6, 10);
    y.errand(1, 1, 3, 5);
    y.errand(2, 1, 3, 5);
    Ask.law(y, "n(l>6);c9(g=3);c5(s=0)");
    Ask.due("COST of 0", y.best(0, 1, -1), 19);
    Ask.due("COST of 1 and 2", y.best(0, 6, -1), 10);
    Ask.due("least COST", y.day(0, 99999, 1), 6);
    Ask.due("least COST", y.day(0, 10, 1), 6);
    Ask.due("neither", y.day(0, 9, 1), 0);
    Ask.law(y, "n(l>6)");
    Ask.due("of like COST the least set", y.day(0, 99999, 1), 1);
    y.errand(0, 1, 3, 5);
    y.errand(2, 3, 6, 10);
    Ask.due("of like COST the least set", y.day(0, 99999, 1), 3);
    // what is worth nothing is done only if it costs less, which it can't
    HillErrands z = loaded();
    z.errand(0, 0, 0, 0);
    Ask.due("the least set is empty", z.day(0, 99999, 1), 0);
    z.errand(1, 1, 0, 7);
    Ask.due("without what is worth nothing", z.day(0, 99999, 1), 2);
  }

  private static void dayWays() {
    Ask.sentence("what 0 WORTH, 1 which ERRANDS (bits), 2 what their ROUND costs");
    HillErrands x = three();
    int lone = x.place(5);
    x.errand(3, lone, 0, 999);
    Ask.due("what can't be done is left", x.day(0, 99999, 1), 3);
    Ask.due("what can't be done is left", x.day(0, 99999, 0), 30);
    Ask.due("what can't be done is left", x.day(0, 99999, 2), 13);
    Ask.due("from there", x.day(lone, 0, 1), 8);
    Ask.due("from there", x.day(lone, 0, 0), 999);
    Ask.due("from there", x.day(lone, 0, 2), 0);
    Ask.due("by the BEST order, not by the first", x.day(0, 14, 1), 3);
  }

  // ---- promise 27

  private static void seed() {
    Ask.sentence("THE SEED (0 to 65535; X, too): true; false: no such number.");
    HillErrands x = Ask.level(1);
    Ask.due("65535", x.seed(65535), true);
    Ask.due("X", x.count(9), 65535);
    Ask.due("65536", x.seed(65536), false);
    Ask.due("-1", x.seed(-1), false);
    for (int far : Ask.extremes()) {
      Ask.due("" + far, x.seed(far), false);
    }
    Ask.due("X", x.count(9), 65535);
    x.draw(0, 1, 0);
    Ask.due("X behind 65535", x.count(9), after(65535));
    Ask.due("0", x.seed(0), true);
    Ask.due("X", x.count(9), 0);
    x.draw(0, 1, 0);
    Ask.due("X behind 0", x.count(9), 13849);
    Ask.due("1", x.seed(1), true);
    x.draw(0, 1, 0);
    Ask.due("X behind 1", x.count(9), 39022);
  }

  private static int after(int x) {
    return (int) ((25173L * x + 13849) % 65536);
  }

  // ---- promise 28

  private static void drawnNumbers() {
    Ask.sentence("X = (25173 X + 13849) modulo 65536 (X is THE SEED at first, 1)");
    HillErrands x = Ask.level(1);
    int so = 1;
    for (int n = 1; n <= 20; n++) {
      Ask.due("draw", x.draw(0, n, n % 2), 0);
      for (int i = 0; i < n; i++) {
        so = after(so);
      }
      Ask.due("X goes on", x.count(9), so);
    }
    for (int seed : new int[] {0, 1, 2, 32767, 32768, 52428, 65534, 65535}) {
      x.seed(seed);
      x.draw(0, 1, 0);
      Ask.due("X behind " + seed, x.count(9), after(seed));
    }
  }

  private static void drawnSets() {
    Ask.sentence("ERRAND X modulo 8, if it is told, is done or undone (a set, empty at the beginning of each drawing): the set");
    for (int told : new int[] {255, 0b01010101, 0b10000001, 0b00001000, 0}) {
      HillErrands x = loaded();
      for (int i = 0; i < 8; i++) {
        if ((told >> i & 1) != 0) {
          x.errand(i, 1, 1, 1);
        }
      }
      int so = 1;
      for (int n = 1; n <= 20; n++) {
        int set = 0;
        for (int i = 0; i < n; i++) {
          so = after(so);
          set ^= 1 << so % 8 & told;
        }
        Ask.due(n + " times", x.draw(0, n, 0), set);
        Ask.due("X", x.count(9), so);
      }
      // X modulo 8 comes to each number once in eight times
      Ask.due("each one done", x.draw(0, 8, 0), told);
      Ask.due("each one done, from the empty set", x.draw(0, 8, 0), told);
      Ask.due("each one done and undone", x.draw(0, 16, 0), 0);
    }
  }

  private static void drawnRounds() {
    Ask.sentence("DRAWN, what 0 the set, 1 its BEST ROUND from a HOME (0: empty; -2: a way is not there)");
    HillErrands x = three();
    for (int n = 1; n <= 20; n++) {
      x.seed(n);
      int set = x.draw(0, n, 0);
      int so = x.count(9);
      for (int home = 0; home < 4; home++) {
        x.seed(n);
        Ask.due("its BEST ROUND", x.draw(home, n, 1), set == 0 ? 0 : x.best(home, set, -1));
        Ask.due("X", x.count(9), so);
      }
    }
    Ask.due("each one done", x.draw(0, 8, 1), 13);
    Ask.due("empty", x.draw(0, 16, 1), 0);
    HillErrands y = Ask.town(10, 0, 30);
    y.stair(0, 1, 1);
    for (int i = 0; i < 8; i++) {
      y.errand(i, 2, 0, 0);
    }
    Ask.due("a way is not there", y.draw(0, 1, 1), -2);
    Ask.due("a way is not there", y.draw(0, 8, 1), -2);
    Ask.due("empty: no way is needed", y.draw(0, 16, 1), 0);
    Ask.due("the set needs none", y.draw(0, 8, 0), 255);
    Ask.due("from there", y.draw(2, 8, 1), 0);
    for (int i = 0; i < 8; i++) {
      y.errand(i, 1, 0, 0);
    }
    Ask.due("there, but not home", y.draw(0, 8, 1), -2);
  }

  private static void drawRefused() {
    Ask.sentence("NONE: no such ones (X stays).");
    HillErrands x = three();
    Ask.due("n 0", x.draw(0, 0, 0), -1);
    Ask.due("n 21", x.draw(0, 21, 0), -1);
    Ask.due("n -1", x.draw(0, -1, 0), -1);
    Ask.due("HOME", x.draw(4, 1, 0), -1);
    Ask.due("HOME, though the set needs none", x.draw(-1, 1, 0), -1);
    Ask.due("what 2", x.draw(0, 1, 2), -1);
    Ask.due("what -1", x.draw(0, 1, -1), -1);
    for (int far : Ask.extremes()) {
      Ask.due("HOME " + far, x.draw(far, 1, 0), -1);
      Ask.due("n " + far, x.draw(0, far, 0), -1);
      Ask.due("what " + far, x.draw(0, 1, far), -1);
    }
    Ask.due("X stays", x.count(9), 1);
    Ask.due("1 is allowed", x.draw(0, 1, 0), 0);
    Ask.due("X", x.count(9), 39022);
    Ask.due("20 is allowed", x.draw(0, 20, 0) >= 0, true);
  }
}
