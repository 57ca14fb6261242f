import java.io.IOException;

/** The sentences about people, things and water: promises 13 to 18. */
public final class FolkSentenceTests {
  /** By person and thing. */
  private static final int[][] BROUGHT = new int[8][8];

  public static void main(String[] args) throws IOException {
    people();
    peopleBounds();
    things();
    thingInPlace();
    broughtLegs();
    broughtBelowZero();
    broughtWithoutWay();
    broughtRefused();
    sentMost();
    sentCost();
    sentRow();
    sentOfAllRows();
    sentByOthers();
    sentWhats();
    sentSets();
    wants();
    waterRefused();
    waterOnTheWay();
    waterOfTheWell();
    waterByLeastWay();
    waterShared();
    dry();
    dryOfLikeOnes();
    waterBounds();
    Ask.finish(args);
  }

  /** Level places 0 to 3 in a row; each stair costs one more than the load. */
  private static HillErrands row() {
    HillErrands x = Ask.level(4);
    Ask.row(x, 0, 0, 1, 2, 3);
    Ask.law(x, "c1+l(0=0)");
    return x;
  }

  // ---- promise 13

  private static void people() {
    Ask.sentence("PEOPLE 0 to 7: each comes from a PLACE and goes to another one (or stays).");
    HillErrands x = Ask.level(3);
    for (int p = 0; p < 8; p++) {
      Ask.due("person", x.person(p % 3, p * 2 % 3, p == 0 ? 0 : 99), p);
      Ask.due("count(6)", x.count(6), p + 1);
    }
    x.thing(0, 0, 0, 0);
    Ask.due("one who stays", x.brought(0, 0), 0);
    Ask.due("one who has no way", x.brought(1, 0), -1000000);
    Ask.due("the last one, who has none either", x.brought(7, 0), -1000000);
    Ask.sentence("A PERSON that can carry so much: its number; NONE: no such ones, 8 are there.");
    Ask.due("a 9th", x.person(0, 0, 0), -1);
    Ask.due("a 9th", x.person(0, 1, 5), -1);
    Ask.due("count(6)", x.count(6), 8);
    Ask.due("no 9th", x.brought(8, 0), -2000000);
  }

  private static void peopleBounds() {
    Ask.sentence("each PERSON can carry so much (0 to 99)");
    HillErrands x = Ask.level(3);
    int[][] odd = {{3, 0, 0}, {-1, 0, 0}, {0, 3, 0}, {0, -1, 0}, {0, 0, 100}, {0, 0, -1}, {3, 3, 100}};
    for (int[] a : odd) {
      Ask.due("person(" + a[0] + ", " + a[1] + ", " + a[2] + ")", x.person(a[0], a[1], a[2]), -1);
    }
    for (int far : Ask.extremes()) {
      Ask.due("from " + far, x.person(far, 0, 0), -1);
      Ask.due("to " + far, x.person(0, far, 0), -1);
      Ask.due("carries " + far, x.person(0, 0, far), -1);
    }
    Ask.due("none came", x.count(6), 0);
    Ask.due("no PLACES", new HillErrands().person(0, 0, 0), -1);
    Ask.due("99", x.person(2, 2, 99), 0);
    Ask.due("0", x.person(1, 1, 0), 1);
    x.wants(2, 99);
    x.wants(1, 1);
    Ask.due("99 are carried", x.water(2, 0), 99);
    Ask.due("none is carried", x.water(1, 0), 0);
  }

  // ---- promise 14

  private static void things() {
    Ask.sentence("THINGS 0 to 7: from a PLACE to a PLACE, a WEIGHT (0 to 99).");
    HillErrands x = row();
    int[][] odd = {{8, 0, 0, 0}, {-1, 0, 0, 0}, {32, 0, 0, 0}, {0, 4, 0, 0}, {0, -1, 0, 0}, {0, 0, 4, 0}, {0, 0, -1, 0},
        {0, 0, 0, 100}, {0, 0, 0, -1}};
    for (int[] a : odd) {
      Ask.due("thing(" + a[0] + ", " + a[1] + ", " + a[2] + ", " + a[3] + ")", x.thing(a[0], a[1], a[2], a[3]), false);
      Ask.due("none is told", x.count(7), 0);
    }
    for (int far : Ask.extremes()) {
      Ask.due("number " + far, x.thing(far, 0, 0, 0), false);
      Ask.due("from " + far, x.thing(0, far, 0, 0), false);
      Ask.due("to " + far, x.thing(0, 0, far, 0), false);
      Ask.due("WEIGHT " + far, x.thing(0, 0, 0, far), false);
    }
    Ask.due("none is told", x.count(7), 0);
    x.person(1, 2, 0);
    int bits = 0;
    for (int i = 7; i >= 0; i--) {
      Ask.due("thing " + i, x.thing(i, 1, 2, i % 2 * 99), true);
      bits |= 1 << i;
      Ask.due("told", x.count(7), bits);
      Ask.due("WEIGHT", x.brought(0, i), i % 2 * 99);
    }
    Ask.due("a THING that is there", x.thing(0, 1, 1, 5), true);
    Ask.due("to where it is", x.brought(0, 0), 0);
  }

  private static void thingInPlace() {
    Ask.sentence("A THING (in place of the one before): true; false: no such ones.");
    HillErrands x = row();
    x.person(1, 2, 0);
    x.thing(7, 1, 2, 5);
    for (int[] a : new int[][] {{7, 4, 0, 0}, {7, -1, 0, 0}, {7, 0, 4, 0}, {7, 0, -1, 0}, {7, 0, 0, 100}, {7, 0, 0, -1}}) {
      Ask.due("refused", x.thing(a[0], a[1], a[2], a[3]), false);
      Ask.due("as told before", x.brought(0, 7), 5);
    }
    Ask.due("in place", x.thing(7, 2, 1, 0), true);
    Ask.due("to and fro", x.brought(0, 7), 1 + 1 + 1 - 1);
    Ask.due("one", x.count(7), 128);
  }

  // ---- promise 15

  private static void broughtLegs() {
    Ask.sentence("BROUGHT by a PERSON, a THING takes the COST from its beginning to the THING's (LOAD 0), to where that is to be (LOAD its WEIGHT), to its own end (LOAD 0), less the COST of its own way.");
    HillErrands x = row();
    x.person(0, 3, 0);
    x.person(3, 0, 99);
    x.person(2, 2, 50);
    for (int weight : new int[] {0, 1, 2, 50, 98, 99}) {
      x.thing(0, 1, 2, weight);
      Ask.due("on his way", x.brought(0, 0), weight);
      Ask.due("against it", x.brought(1, 0), 2 + (1 + weight) + 2 - 3);
      Ask.due("from his place and home", x.brought(2, 0), 1 + (1 + weight));
      x.thing(0, 3, 0, weight);
      Ask.due("all the row back", x.brought(0, 0), 3 + 3 * (1 + weight) + 3 - 3);
      Ask.due("all the row", x.brought(1, 0), 3 * weight);
      Ask.due("there and back", x.brought(2, 0), 1 + 3 * (1 + weight) + 2);
      x.thing(0, 2, 2, weight);
      Ask.due("it is there: no LOAD", x.brought(0, 0), 0);
      Ask.due("it is there", x.brought(2, 0), 0);
    }
    // up costs, down does not: no leg may be turned round
    HillErrands y = Ask.town(0, 10, 30, 60);
    Ask.row(y, 0, 0, 1, 2, 3);
    y.person(0, 2, 0);
    y.thing(5, 1, 3, 7);
    Ask.due("up and down again", y.brought(0, 5), 10 + 50 + 0 - 30);
    y.thing(5, 3, 1, 7);
    Ask.due("up, down and up", y.brought(0, 5), 60 + 0 + 20 - 30);
    y.person(3, 0, 0);
    Ask.due("down", y.brought(1, 5), 0);
    y.thing(5, 0, 3, 7);
    Ask.due("down, up, down", y.brought(1, 5), 60);
    y.person(1, 3, 0);
    Ask.due("down and up", y.brought(2, 5), 60 - 50);
  }

  private static void broughtBelowZero() {
    Ask.sentence("BROUGHT: what a THING takes by a PERSON (may be below 0)");
    HillErrands x = row();
    Ask.law(x, "c9(l=0);c1(l=1)");
    x.person(0, 3, 0);
    x.thing(0, 0, 3, 1);
    x.thing(1, 1, 3, 1);
    x.thing(2, 0, 3, 0);
    x.thing(3, 0, 3, 2);
    Ask.due("all the way", x.brought(0, 0), 3 - 27);
    Ask.due("a part of it", x.brought(0, 1), 9 + 2 - 27);
    Ask.due("without LOAD", x.brought(0, 2), 0);
    Ask.due("for nothing", x.brought(0, 3), -27);
    Ask.law(x, "c9999(l=0);c0(0=0)");
    Ask.due("most below 0", x.brought(0, 0), -3 * 9999);
  }

  private static void broughtWithoutWay() {
    Ask.sentence("-1000000: a way is not there; -2000000: no such ones.");
    // slides on the level: 0 to 1, 1 to 2, 2 to 0; one of them lacks
    for (int lacking = 0; lacking < 4; lacking++) {
      HillErrands x = Ask.level(3);
      for (int s = 0; s < 3; s++) {
        if (s != lacking) {
          x.stair(s, (s + 1) % 3, 1);
        }
      }
      x.person(0, 0, 0);
      x.thing(0, 1, 2, 3);
      Ask.due("slide " + lacking + " lacks", x.brought(0, 0), lacking < 3 ? -1000000 : 0);
    }
    HillErrands y = row();
    y.person(0, 3, 0);
    y.thing(0, 0, 3, 1);
    Ask.law(y, "n(l=0&f=1)");
    Ask.due("his own way lacks", y.brought(0, 0), -1000000);
    Ask.law(y, "n(l=1&f=1)");
    Ask.due("the THING's lacks", y.brought(0, 0), -1000000);
    y.thing(0, 0, 3, 2);
    Ask.due("none lacks", y.brought(0, 0), 0);
    Ask.law(y, "n(l>98)");
    y.thing(0, 0, 3, 98);
    Ask.due("not too heavy", y.brought(0, 0), 0);
    y.thing(0, 0, 3, 99);
    Ask.due("too heavy", y.brought(0, 0), -1000000);
  }

  private static void broughtRefused() {
    Ask.sentence("in brought() -2000000 ahead of -1000000;");
    HillErrands x = Ask.level(2);
    Ask.due("nothing is told", x.brought(0, 0), -2000000);
    x.person(0, 1, 0);
    Ask.due("no THING", x.brought(0, 0), -2000000);
    x.thing(3, 1, 0, 0);
    Ask.due("a way is not there", x.brought(0, 3), -1000000);
    for (int i : new int[] {0, 2, 4, 7, 8, 32, 35, -1}) {
      Ask.due("THING " + i, x.brought(0, i), -2000000);
    }
    for (int p : new int[] {1, 7, 8, -1}) {
      Ask.due("PERSON " + p, x.brought(p, 3), -2000000);
    }
    for (int far : Ask.extremes()) {
      Ask.due("PERSON " + far, x.brought(far, 3), -2000000);
      Ask.due("THING " + far, x.brought(0, far), -2000000);
    }
    HillErrands y = Ask.level(1);
    y.thing(0, 0, 0, 0);
    Ask.due("no PERSON", y.brought(0, 0), -2000000);
    for (int p = 0; p < 8; p++) {
      y.person(0, 0, 0);
    }
    y.thing(7, 0, 0, 0);
    Ask.due("the last ones", y.brought(7, 7), 0);
    Ask.due("behind the last one", y.brought(8, 7), -2000000);
    Ask.due("behind the last one", y.brought(7, 8), -2000000);
  }

  // ---- promise 16

  private static void sentMost() {
    Ask.sentence("SENT: each of some THINGS by another PERSON: most of them;");
    // PERSON 1 can bring THING 0 alone, which PERSON 0 brings for less
    HillErrands x = Ask.town(0, 200, 200);
    x.stair(0, 1, 0);
    x.stair(1, 2, 1);
    x.stair(2, 0, 1);
    x.person(0, 0, 0);
    x.thing(0, 0, 1, 0);
    x.thing(1, 0, 2, 0);
    Ask.due("one PERSON: one THING", x.sent(3, -1), 1);
    x.person(0, 0, 0);
    Ask.due("two", x.sent(3, -1), 2);
    Ask.due("two, though they cost", x.sent(3, 10), 400);
    HillErrands y = Ask.level(4);
    y.stair(0, 1, 0);
    y.stair(2, 3, 0);
    Ask.law(y, "c9999(0=0)");
    y.person(0, 0, 0);
    y.thing(0, 0, 0, 0);
    y.thing(1, 1, 0, 0);
    y.thing(2, 3, 2, 0);
    Ask.due("the cheaper one", y.sent(7, 0), 0);
    Ask.due("its COST", y.sent(7, 10), 0);
    y.person(1, 1, 0);
    Ask.due("two", y.sent(7, -1), 2);
    Ask.due("each his own", y.sent(7, 10), 2 * 9999);
    y.person(2, 2, 0);
    Ask.due("three, though the third is dear", y.sent(7, -1), 3);
    Ask.due("three", y.sent(7, 10), 4 * 9999);
    Ask.due("the third one's", y.sent(7, 2), 2);
    Ask.due("nobody", y.sent(1, 0), 0);
  }

  private static void sentCost() {
    Ask.sentence("of like ones at least COST together;");
    // things 0 and 1 each by both: together it is less if the first THING has the dearer PERSON
    HillErrands x = row();
    x.person(0, 3, 0);
    x.person(3, 3, 0);
    x.thing(0, 1, 2, 4);
    x.thing(1, 3, 3, 9);
    Ask.due("thing 0 by 0", x.brought(0, 0), 4);
    Ask.due("thing 0 by 1", x.brought(1, 0), 2 + 5 + 1);
    Ask.due("COST", x.sent(3, 10), 4);
    Ask.due("thing 0", x.sent(3, 0), 0);
    Ask.due("thing 1", x.sent(3, 1), 1);
    x.thing(0, 3, 3, 1);
    x.thing(1, 0, 3, 0);
    Ask.due("COST", x.sent(3, 10), 0);
    Ask.due("thing 0: not the first PERSON", x.sent(3, 0), 1);
    Ask.due("thing 1", x.sent(3, 1), 0);
    // PERSON 1 comes by both for nothing, 2 by THING 0 for 4 and by THING 1 for 100, 0 by none
    HillErrands v = Ask.town(0, 96, 100, 7);
    Ask.row(v, 0, 0, 1, 2);
    v.person(3, 3, 0);
    v.person(0, 2, 0);
    v.person(2, 2, 0);
    v.thing(0, 1, 1, 0);
    v.thing(1, 0, 0, 0);
    Ask.due("together", v.sent(3, 10), 4);
    Ask.due("thing 0 by the dearer one", v.sent(3, 0), 2);
    Ask.due("thing 1", v.sent(3, 1), 1);
    // the same by PEOPLE 6 and 7
    HillErrands w = Ask.town(0, 96, 100, 7);
    Ask.row(w, 0, 0, 1, 2);
    for (int q = 0; q < 6; q++) {
      w.person(3, 3, 0);
    }
    w.person(0, 2, 0);
    w.person(2, 2, 0);
    w.thing(6, 1, 1, 0);
    w.thing(7, 0, 0, 0);
    Ask.due("together", w.sent(192, 10), 4);
    Ask.due("thing 6 by the dearer one", w.sent(192, 6), 7);
    Ask.due("thing 7", w.sent(192, 7), 6);
    // one PERSON: the cheaper THING, though it is the second
    HillErrands y = row();
    y.person(0, 0, 0);
    y.thing(2, 0, 3, 0);
    y.thing(6, 0, 1, 0);
    Ask.due("the dearer one by nobody", y.sent(68, 2), 8);
    Ask.due("the cheaper one", y.sent(68, 6), 0);
    Ask.due("COST", y.sent(68, 10), 2);
    Ask.due("one", y.sent(68, -1), 1);
    Ask.due("the dearer one alone", y.sent(4, 10), 6);
    Ask.due("the dearer one alone", y.sent(4, 2), 0);
    // COST below 0
    Ask.law(y, "c9(l=0);c1(0=0)");
    y.person(0, 3, 0);
    y.thing(2, 0, 3, 1);
    Ask.due("below 0", y.sent(4, 10), 3 - 27);
    Ask.due("by the one whose way it is", y.sent(4, 2), 1);
  }

  private static void sentRow() {
    Ask.sentence("of like ones the least row by THINGS (by nobody behind all).");
    HillErrands x = Ask.level(1);
    for (int i = 0; i < 8; i++) {
      x.thing(i, 0, 0, i);
    }
    for (int people = 0; people <= 8; people++) {
      Ask.due("as many as there are PEOPLE", x.sent(255, -1), people);
      Ask.due("COST", x.sent(255, 10), 0);
      for (int i = 0; i < 8; i++) {
        Ask.due("THING " + i + " of all", x.sent(255, i), i < people ? i : 8);
      }
      for (int i = 1; i < 8; i += 3) {
        Ask.due("THING " + i + " of 1, 4 and 7", x.sent(146, i), i / 3 < people ? i / 3 : 8);
      }
      x.person(0, 0, 0);
    }
    // the second THING can be brought by PERSON 0 alone: the row is not the least of all, but of the most
    HillErrands y = Ask.level(4);
    y.stair(0, 1, 0);
    y.person(0, 0, 0);
    y.person(2, 2, 0);
    y.person(0, 0, 0);
    y.thing(0, 0, 0, 0);
    y.thing(1, 0, 1, 0);
    y.thing(2, 2, 2, 0);
    Ask.due("three", y.sent(7, -1), 3);
    Ask.due("first", y.sent(7, 0), 0);
    Ask.due("second", y.sent(7, 1), 2);
    Ask.due("third", y.sent(7, 2), 1);
    y.thing(3, 3, 3, 0);
    Ask.due("by nobody", y.sent(15, 3), 8);
    Ask.due("three of four", y.sent(15, -1), 3);
    Ask.due("nobody alone", y.sent(8, 3), 8);
    Ask.due("none", y.sent(8, -1), 0);
    Ask.due("no COST", y.sent(8, 10), 0);
  }

  /** Towns in which many rows are to be weighed: all of them are gone through here, by what brought() answers. */
  private static void sentOfAllRows() {
    Ask.sentence("SENT: each of some THINGS by another PERSON: most of them; of like ones at least COST together; of like ones the least row by THINGS (by nobody behind all).");
    for (int run = 0; run < 40; run++) {
      HillErrands x = Ask.town(0, 3, 9, 4, 30, 12, 7, 7);
      Ask.row(x, 0, 0, 1, 2, 3, 4);
      x.stair(4, 5, 1);
      x.stair(5, 0, 1);
      if (run % 2 == 0) {
        x.stair(5, 6, 2);
      }
      Ask.law(x, run % 3 == 0 ? "cu+l%3(0=0)" : run % 3 == 1 ? "cu/7+l%2*d(0=0)" : "n(l>60);cu+d(0=0)");
      int people = 1 + run % 6;
      for (int q = 0; q < people; q++) {
        x.person((run + 3 * q) % 8, (run * q + 5) % 7, 0);
      }
      int things = 2 + run % 5;
      for (int i = 0; i < things; i++) {
        x.thing(i, (run * 3 + i * i) % 7, (run + 2 * i) % 6, (run * 17 + 31 * i) % 100);
      }
      int[] row = new int[things];
      int[] best = new int[things + 2];
      best[things] = -1;
      weighRows(x, row, 0, people, best);
      int all = (1 << things) - 1;
      Ask.due("how many, run " + run, x.sent(all, -1), best[things]);
      Ask.due("COST, run " + run, x.sent(all, 10), best[things + 1]);
      for (int i = 0; i < things; i++) {
        Ask.due("THING " + i + ", run " + run, x.sent(all, i), best[i]);
      }
    }
  }

  /** Rows come in their order (8 for nobody), so that of like ones the first is the least; best ends with how many and COST. */
  private static void weighRows(HillErrands x, int[] row, int at, int people, int[] best) {
    if (at == 0) {
      for (int q = 0; q < people; q++) {
        for (int i = 0; i < row.length; i++) {
          BROUGHT[q][i] = x.brought(q, i);
        }
      }
    }
    if (at == row.length) {
      int n = 0;
      int cost = 0;
      for (int i = 0; i < at; i++) {
        n += row[i] < 8 ? 1 : 0;
        cost += row[i] < 8 ? BROUGHT[row[i]][i] : 0;
      }
      if (n > best[at] || n == best[at] && cost < best[at + 1]) {
        System.arraycopy(row, 0, best, 0, at);
        best[at] = n;
        best[at + 1] = cost;
      }
      return;
    }
    for (int q = 0; q <= 8; q++) {
      boolean free = q == 8 || q < people && BROUGHT[q][at] != -1000000;
      for (int i = 0; i < at && q < 8; i++) {
        free &= row[i] != q;
      }
      if (free) {
        row[at] = q;
        weighRows(x, row, at + 1, people, best);
      }
    }
  }

  private static void sentByOthers() {
    Ask.sentence("each of some THINGS by another PERSON");
    HillErrands x = row();
    x.person(0, 3, 0);
    x.thing(0, 0, 3, 0);
    x.thing(1, 0, 3, 0);
    Ask.due("each for nothing", x.brought(0, 0) + x.brought(0, 1), 0);
    Ask.due("but one alone", x.sent(3, -1), 1);
    Ask.due("the first", x.sent(3, 0), 0);
    Ask.due("the second by nobody", x.sent(3, 1), 8);
    x.person(3, 0, 0);
    Ask.due("both", x.sent(3, -1), 2);
    Ask.due("for the COST of the other one", x.sent(3, 10), 6);
    Ask.due("the first", x.sent(3, 0), 0);
    Ask.due("the second", x.sent(3, 1), 1);
  }

  private static void sentWhats() {
    Ask.sentence("what NONE how many are, 10 COST of all, else the PERSON that brings THING what (8: nobody); -2: it is none of them; NONE: no such ones.");
    HillErrands x = row();
    for (int i = 0; i < 8; i++) {
      x.thing(i, 0, 1, 0);
    }
    x.person(0, 0, 0);
    for (int what = 0; what < 8; what++) {
      for (int things : new int[] {1, 2, 128, 170, 85, 255}) {
        boolean given = (things >> what & 1) != 0;
        boolean first = (things & (1 << what) - 1) == 0;
        Ask.due("sent(" + things + ", " + what + ")", x.sent(things, what), !given ? -2 : first ? 0 : 8);
      }
    }
    Ask.due("how many", x.sent(255, -1), 1);
    Ask.due("COST", x.sent(255, 10), 2);
    for (int what : new int[] {8, 9, 11, 12, 20, 31, 32, -2, -3}) {
      Ask.due("what " + what, x.sent(255, what), -1);
      Ask.due("what " + what + ", ahead of -2", x.sent(1, what), -1);
    }
    for (int far : Ask.extremes()) {
      Ask.due("what " + far, x.sent(255, far), -1);
    }
    HillErrands y = row();
    y.thing(3, 0, 1, 0);
    y.thing(4, 0, 1, 0);
    Ask.due("no PEOPLE: none", y.sent(24, -1), 0);
    Ask.due("no PEOPLE: no COST", y.sent(24, 10), 0);
    Ask.due("no PEOPLE: nobody", y.sent(24, 3), 8);
    Ask.due("no PEOPLE: none of them", y.sent(8, 4), -2);
  }

  private static void sentSets() {
    Ask.sentence("SENT for THINGS (bits, not empty)");
    HillErrands x = row();
    x.person(0, 0, 0);
    x.thing(0, 0, 1, 0);
    x.thing(2, 0, 1, 0);
    Ask.due("empty", x.sent(0, -1), -1);
    Ask.due("not told", x.sent(2, -1), -1);
    Ask.due("one of two is not told", x.sent(3, -1), -1);
    Ask.due("one of two is not told, COST", x.sent(3, 10), -1);
    Ask.due("one of two is not told, ahead of -2", x.sent(3, 2), -1);
    Ask.due("bit 8", x.sent(257, -1), -1);
    Ask.due("bit 31", x.sent(1 << 31 | 1, -1), -1);
    Ask.due("-1", x.sent(-1, -1), -1);
    for (int far : Ask.extremes()) {
      Ask.due("THINGS " + far, x.sent(far, -1), -1);
    }
    Ask.due("all that are told", x.sent(5, -1), 1);
  }

  // ---- promise 17

  private static void wants() {
    Ask.sentence("each PLACE wants so much (0 to 99; 0 at first)");
    HillErrands x = Ask.level(3);
    Ask.due("at first", x.count(41), 0);
    Ask.due("at first", x.water(0, 1), 0);
    Ask.sentence("What a PLACE wants: true; false: no such ones.");
    Ask.due("99", x.wants(1, 99), true);
    Ask.due("count(41)", x.count(41), 99);
    Ask.due("100", x.wants(1, 100), false);
    Ask.due("-1", x.wants(1, -1), false);
    Ask.due("PLACE 3", x.wants(3, 1), false);
    Ask.due("PLACE -1", x.wants(-1, 1), false);
    for (int far : Ask.extremes()) {
      Ask.due("so much: " + far, x.wants(1, far), false);
      Ask.due("PLACE " + far, x.wants(far, 1), false);
    }
    Ask.due("it stays", x.count(41), 99);
    Ask.due("the others, too", x.count(40) + x.count(42), 0);
    Ask.due("together", x.water(0, 1), 99);
    Ask.due("1", x.wants(2, 1), true);
    Ask.due("together", x.water(0, 1), 100);
    Ask.due("0", x.wants(1, 0), true);
    Ask.due("together", x.water(0, 1), 1);
    Ask.due("no PLACES", new HillErrands().wants(0, 0), false);
  }

  // ---- promise 18

  private static void waterRefused() {
    Ask.sentence("WATER from a WELL, what 0 the most, 1 how much is wanted together, 2 DRY (bits); NONE: no such ones.");
    HillErrands x = Ask.level(3);
    x.wants(0, 3);
    int[] due = {0, 3, 1};
    for (int what = 0; what < 3; what++) {
      Ask.due("what " + what, x.water(2, what), due[what]);
      Ask.due("WELL 3", x.water(3, what), -1);
      Ask.due("WELL -1", x.water(-1, what), -1);
    }
    Ask.due("what 3", x.water(0, 3), -1);
    Ask.due("what -1", x.water(0, -1), -1);
    for (int far : Ask.extremes()) {
      Ask.due("WELL " + far, x.water(far, 0), -1);
      Ask.due("what " + far, x.water(0, far), -1);
    }
    Ask.due("no PLACES", new HillErrands().water(0, 1), -1);
  }

  private static void waterOnTheWay() {
    Ask.sentence("on THE WAY (LOAD 0) from its beginning to its end, if that has the WELL, to PLACES that come on it behind the WELL, or the WELL itself");
    HillErrands x = Ask.town(0, 10, 20, 30, 40, 5);
    Ask.row(x, 0, 0, 1, 2, 3, 4);
    for (int p = 0; p < 6; p++) {
      x.wants(p, 1 << p);
    }
    x.person(1, 3, 99);
    int[] most = {0, 2 + 4 + 8, 4 + 8, 8, 0, 0};
    for (int well = 0; well < 6; well++) {
      Ask.due("upward, WELL " + well, x.water(well, 0), most[well]);
      Ask.due("DRY", x.water(well, 2), 63 - most[well]);
      Ask.due("wanted together", x.water(well, 1), 63);
    }
    x.person(3, 1, 99);
    int[] both = {0, 14, 14, 14, 0, 0};
    for (int well = 0; well < 6; well++) {
      Ask.due("downward, too, WELL " + well, x.water(well, 0), both[well]);
      Ask.due("DRY", x.water(well, 2), 63 - both[well]);
    }
    x.person(0, 5, 99);
    Ask.due("no way: he brings to none", x.water(0, 0), 0);
    Ask.due("no way: DRY", x.water(0, 2), 63);
    x.person(5, 5, 99);
    Ask.due("he stays: to the WELL", x.water(5, 0), 32);
    Ask.due("he stays: DRY", x.water(5, 2), 31);
    x.person(0, 4, 99);
    Ask.due("from his beginning", x.water(0, 0), 31);
    Ask.due("from his beginning: DRY", x.water(0, 2), 32);
    Ask.due("at his end", x.water(4, 0), 16);
    Ask.due("at his end: DRY", x.water(4, 2), 47);
  }

  private static void waterOfTheWell() {
    Ask.sentence("or the WELL itself: the most that all can have together");
    HillErrands x = Ask.level(2);
    x.stair(0, 1, 0);
    x.wants(0, 5);
    x.person(0, 0, 4);
    Ask.due("4 of 5", x.water(0, 0), 4);
    Ask.due("DRY", x.water(0, 2), 1);
    Ask.due("of another WELL", x.water(1, 0), 0);
    x.person(1, 0, 1);
    Ask.due("he comes to the WELL", x.water(0, 0), 5);
    Ask.due("none is DRY", x.water(0, 2), 0);
    Ask.due("he alone from the other WELL", x.water(1, 0), 1);
    Ask.due("DRY", x.water(1, 2), 1);
  }

  private static void waterByLeastWay() {
    Ask.sentence("on THE WAY (LOAD 0)");
    HillErrands x = Ask.level(5);
    Ask.row(x, 0, 0, 2, 3);
    Ask.row(x, 0, 0, 1, 3);
    Ask.row(x, 2, 0, 4, 3);
    for (int p = 1; p < 5; p++) {
      x.wants(p, 1 << p);
    }
    x.person(0, 3, 99);
    Ask.due("the least row: by 1", x.water(0, 0), 2 + 8);
    Ask.due("by 1", x.water(0, 2), 4 + 16);
    Ask.due("not by 2", x.water(2, 0), 0);
    Ask.law(x, "c1(g=1)");
    Ask.due("the least COST: by 2", x.water(0, 0), 4 + 8);
    Ask.law(x, "c1(k=0)");
    Ask.due("the least COST: by 4", x.water(0, 0), 16 + 8);
    Ask.law(x, "c1(k=0&l>0)");
    Ask.due("LOAD 0, whatever he carries", x.water(0, 0), 2 + 8);
    Ask.law(x, "n(l=0&k=0)");
    Ask.due("LOAD 0: by 4", x.water(0, 0), 16 + 8);
    Ask.law(x, "n(l=0)");
    Ask.due("LOAD 0: no way", x.water(0, 0), 0);
    x.stair(0, 3, 1);
    Ask.law(x, "n(0=1)");
    Ask.due("fewest STAIRS: at once", x.water(0, 0), 8);
  }

  private static void waterShared() {
    Ask.sentence("the most that all can have together; DRY");
    // 0 carries 6 to 1, 2 and 3; 1 carries 5 to 2 and 3; 2 carries 4 to 3
    HillErrands x = Ask.level(4);
    Ask.row(x, 1, 0, 1, 2, 3);
    x.stair(0, 2, 1);
    x.stair(0, 3, 1);
    Ask.law(x, "c3(s=3|s=4)");
    x.person(0, 3, 6);
    x.wants(1, 6);
    x.wants(2, 5);
    x.wants(3, 4);
    Ask.due("6 of 15", x.water(0, 0), 6);
    Ask.due("all are DRY", x.water(0, 2), 14);
    x.person(0, 2, 5);
    Ask.due("11 of 15", x.water(0, 0), 11);
    Ask.due("all are DRY", x.water(0, 2), 14);
    x.person(0, 1, 9);
    Ask.due("9 to 1, 5 to 2, 6 to 3: all have theirs", x.water(0, 0), 15);
    Ask.due("none is DRY", x.water(0, 2), 0);
    x.wants(1, 30);
    Ask.due("1 has all that 20 are", x.water(0, 0), 20);
    Ask.due("39 less 20 are most", x.water(0, 2), 14);
    x.wants(1, 0);
    Ask.due("6 come to 3, 5 to 2 alone: all have theirs", x.water(0, 0), 9);
    x.wants(3, 7);
    Ask.due("6 to 3 and 5 to 2", x.water(0, 0), 11);
    Ask.due("3 wants one more than comes to it", x.water(0, 2), 8);
    x.wants(2, 6);
    Ask.due("6 to 3 and 5 to 2", x.water(0, 0), 11);
    Ask.due("2 and 3 want two more than comes to them", x.water(0, 2), 12);
    Ask.due("wanted", x.water(0, 1), 13);
  }

  private static void dry() {
    Ask.sentence("DRY: the PLACES that want, together, most more than all can carry together who bring to any of them");
    HillErrands x = Ask.level(3);
    Ask.row(x, 0, 0, 1, 2);
    x.person(0, 2, 10);
    x.wants(1, 10);
    Ask.due("just enough", x.water(0, 2), 0);
    Ask.due("just enough", x.water(0, 0), 10);
    x.wants(1, 11);
    Ask.due("one more", x.water(0, 2), 2);
    Ask.due("one more", x.water(0, 0), 10);
    x.wants(1, 5);
    x.wants(2, 5);
    Ask.due("just enough together", x.water(0, 2), 0);
    x.wants(2, 6);
    Ask.due("each has enough by itself, both have not", x.water(0, 2), 6);
    Ask.due("10 of 11", x.water(0, 0), 10);
    x.person(0, 1, 0);
    Ask.due("who carries 0 brings 0", x.water(0, 2), 6);
    x.person(0, 1, 1);
    Ask.due("one more for 1", x.water(0, 2), 0);
    Ask.due("all", x.water(0, 0), 11);
    x.wants(0, 1);
    Ask.due("the WELL, too", x.water(0, 2), 7);
    Ask.due("11 of 12", x.water(0, 0), 11);
    x.person(2, 2, 99);
    Ask.due("who has not the WELL brings nothing", x.water(0, 2), 7);
  }

  private static void dryOfLikeOnes() {
    Ask.sentence("of like ones fewest, then the least set (0: no PLACES want more).");
    HillErrands x = Ask.level(4);
    x.stair(0, 1, 0);
    x.wants(1, 5);
    x.wants(2, 9);
    x.person(0, 1, 5);
    Ask.due("1 has just enough: 2 alone", x.water(0, 2), 4);
    x.wants(1, 6);
    Ask.due("both", x.water(0, 2), 6);
    x.wants(1, 4);
    Ask.due("2 alone", x.water(0, 2), 4);
    x.wants(2, 0);
    Ask.due("none", x.water(0, 2), 0);
    Ask.due("what wants nothing and has nobody is none of them", x.water(3, 2), 2);
    x.wants(1, 0);
    Ask.due("nothing is wanted", x.water(3, 2), 0);
    Ask.due("nothing is wanted", x.water(3, 0), 0);
    Ask.due("nothing is wanted", x.water(3, 1), 0);
  }

  private static void waterBounds() {
    Ask.sentence("each PERSON can carry so much (0 to 99)");
    HillErrands x = new HillErrands();
    for (int p = 0; p < 20; p++) {
      x.place(10 * p);
    }
    for (int p = 1; p < 20; p++) {
      x.stair(p - 1, p, 0);
    }
    for (int p = 0; p < 20; p++) {
      x.wants(p, 99);
    }
    for (int q = 0; q < 8; q++) {
      x.person(0, 19, 99);
      Ask.due("most", x.water(0, 0), 99 * (q + 1));
      Ask.due("all are DRY", x.water(0, 2), (1 << 20) - 1);
      Ask.due("behind the WELL", x.water(19 - q, 0), 99 * (q + 1));
      Ask.due("DRY ahead of it", x.water(19 - q, 2), (1 << 19 - q) - 1);
    }
    Ask.due("wanted", x.water(0, 1), 20 * 99);
    HillErrands y = Ask.level(8);
    for (int q = 0; q < 8; q++) {
      y.person(q, q, 10 * q + 9);
      y.wants(q, 10 * q + 9);
    }
    for (int well = 0; well < 8; well++) {
      Ask.due("each by its own", y.water(well, 0), 10 * well + 9);
      Ask.due("each by its own", y.water(well, 2), 255 - (1 << well));
    }
  }
}
