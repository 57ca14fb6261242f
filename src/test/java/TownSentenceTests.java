import java.io.IOException;
import java.util.Arrays;

/** The sentences about places, stairs, season, ways, what is kept, checks and counts: promises 1 to 4, 8 and 29 to 32. */
public final class TownSentenceTests {
  public static void main(String[] args) throws IOException {
    newObject();
    ownMemory();
    calls();
    heights();
    places();
    stairs();
    stairsBetween();
    sorts();
    season();
    leastWays();
    wayOfFewestStairs();
    leastRow();
    toItself();
    partsOfTheWay();
    noWay();
    noSuchWay();
    waysFollowTheTown();
    kept();
    undone();
    checked();
    checkedNumbers();
    checkRefused();
    counts();
    Ask.finish(args);
  }

  // ---- promise 1

  private static void newObject() {
    Ask.sentence("No PLACES, STAIRS, LAW; SEASON 0; THE SEED 1.");
    HillErrands x = new HillErrands();
    Ask.due("NONE", HillErrands.NONE, -1);
    for (int what = 0; what < 9; what++) {
      Ask.due("count(" + what + ")", x.count(what), 0);
    }
    Ask.due("X", x.count(9), 1);
    for (int what = 20; what < 60; what++) {
      Ask.due("count(" + what + ")", x.count(what), -1);
    }
    Ask.due("nothing KEPT", x.undo(), false);
    Ask.due("no false FARES", x.falseFares(-1), 0);
    x.place(0);
    x.place(30);
    x.stair(0, 1, 0);
    Ask.due("no LAW: steps up", x.going(0, false, 50), 30);
    Ask.law(x, "cw+1(0=0)");
    Ask.due("SEASON 0", x.going(0, false, 0), 1);
    x.draw(0, 1, 0);
    Ask.due("X behind 1", x.count(9), (25173 + 13849) % 65536);
  }

  private static void ownMemory() {
    Ask.sentence("All memory is the town's own.");
    HillErrands x = Ask.town(0, 10);
    HillErrands y = Ask.town(5);
    x.stair(0, 1, 0);
    x.season(2);
    Ask.law(x, "c7(0=0)");
    x.errand(0, 1, 1, 1);
    x.thing(1, 0, 1, 5);
    x.person(0, 1, 5);
    x.wants(1, 5);
    x.fare(0, 1, 5);
    x.fare(0, 1, 6);
    x.seed(9);
    x.keep();
    x.feed(0, 0, 0, 0, 0);
    int[] due = {1, 0, 0, 0, 0, 0, 0, 0, 0, 1};
    for (int what = 0; what < 10; what++) {
      Ask.due("count(" + what + ") of another town", y.count(what), due[what]);
    }
    Ask.due("its height", y.count(20), 5);
    Ask.due("what it wants", y.count(40), 0);
    Ask.due("its false FARES", y.falseFares(-1), 0);
    Ask.due("nothing KEPT", y.undo(), false);
    y.place(9);
    y.stair(0, 1, 0);
    Ask.due("steps up", y.way(0, 1, 0, -1), 4);
    Ask.due("by its law", x.way(0, 1, 0, -1), 7);
  }

  private static void calls() {
    Ask.sentence("An object is used for at most 512 calls after it has been made");
    HillErrands x = Ask.town(0, 10, 30);
    Ask.row(x, 0, 0, 1, 2);
    for (int i = 5; i < 511; i++) {
      x.season(i & 3);
    }
    Ask.due("the 512th", x.way(0, 2, 0, -1), 30);
    HillErrands y = new HillErrands();
    for (int i = 0; i < 511; i++) {
      y.count(i);
    }
    Ask.due("the 512th", y.place(200), 0);
  }

  // ---- promise 2

  private static void heights() {
    Ask.sentence("each at a HEIGHT (0 to 200 steps)");
    HillErrands x = new HillErrands();
    Ask.due("-1", x.place(-1), -1);
    Ask.due("201", x.place(201), -1);
    for (int odd : Ask.extremes()) {
      Ask.due("" + odd, x.place(odd), -1);
    }
    Ask.due("none came", x.count(0), 0);
    Ask.due("0", x.place(0), 0);
    Ask.due("200", x.place(200), 1);
    Ask.due("1", x.place(1), 2);
    Ask.due("199", x.place(199), 3);
    Ask.due("-1", x.place(-1), -1);
    Ask.due("201", x.place(201), -1);
    Ask.due("the same HEIGHT", x.place(200), 4);
    int[] heights = {0, 200, 1, 199, 200};
    for (int p = 0; p < 5; p++) {
      Ask.due("HEIGHT of " + p, x.count(20 + p), heights[p]);
    }
    Ask.due("no 6th", x.count(25), -1);
  }

  private static void places() {
    Ask.sentence("PLACES 0 to 19");
    HillErrands x = new HillErrands();
    for (int p = 0; p < 20; p++) {
      Ask.due("place", x.place(10 * p), p);
      Ask.due("count(0)", x.count(0), p + 1);
      if (p < 19) {
        Ask.due("the next one is not there", x.count(21 + p), -1);
      }
      Ask.due("the next one is not there", x.wants(p + 1, 0), false);
    }
    Ask.sentence("its number; NONE: no such HEIGHT, 20 are there");
    Ask.due("a 21st", x.place(5), -1);
    Ask.due("a 21st", x.place(0), -1);
    Ask.due("both", x.place(201), -1);
    Ask.due("count(0)", x.count(0), 20);
    for (int p = 0; p < 20; p++) {
      Ask.due("HEIGHT of " + p, x.count(20 + p), 10 * p);
    }
    // the last place is a place to every call, the next is not
    x.stair(18, 19, 0);
    Ask.due("stair", x.stair(19, 18, 2), 1);
    Ask.due("way", x.way(19, 18, 0, -1), 0);
    Ask.due("way", x.way(18, 19, 0, -1), 10);
    Ask.due("errand", x.errand(0, 19, 0, 0), true);
    Ask.due("best", x.best(19, 1, -1), 0);
    Ask.due("day", x.day(19, 0, 0), 0);
    Ask.due("person", x.person(19, 19, 0), 0);
    Ask.due("thing", x.thing(0, 19, 19, 0), true);
    Ask.due("wants", x.wants(19, 99), true);
    Ask.due("water", x.water(19, 1), 99);
    Ask.due("shops", x.shops(1 << 19), 0);
    Ask.due("themselves", x.themselves(19 + 20 * 19, 2, 20), 0);
    Ask.due("meet", x.meet(19, 18, 0), 18);
    Ask.due("fare", x.fare(19, 0, 1), 1);
    Ask.due("ends", x.ends(0, 19), -1);
    Ask.due("draw", x.draw(19, 1, 1), 0);
    x.feed(-2, 0, 0, 0, 0);
    Ask.due("check", x.check(19, 1), 1);
  }

  // ---- promise 3

  private static void stairs() {
    Ask.sentence("STAIRS 0 to 39 between two different PLACES");
    HillErrands x = Ask.town(10, 10, 30);
    for (int s = 0; s < 40; s++) {
      Ask.due("stair", x.stair(s % 3, (s + 1) % 3, s % 2 * 2), s);
      Ask.due("count(1)", x.count(1), s + 1);
      Ask.due("the next one is not there", x.going(s + 1, false, 0), -1);
    }
    Ask.due("the last one", x.going(39, true, 0), 0);
    Ask.sentence("A STAIR: its number; NONE: no such ones, a slide upward, 40 are there.");
    Ask.due("a 41st", x.stair(0, 1, 0), -1);
    Ask.due("a 41st", x.stair(2, 0, 1), -1);
    Ask.due("a 41st", x.stair(0, 1, 2), -1);
    Ask.due("count(1)", x.count(1), 40);
    Ask.due("no 41st", x.going(40, false, 0), -1);
    for (int odd : Ask.extremes()) {
      Ask.due("first " + odd, x.stair(odd, 1, 0), -1);
      Ask.due("second " + odd, x.stair(1, odd, 0), -1);
    }
  }

  private static void stairsBetween() {
    Ask.sentence("between two different PLACES, of a SORT");
    HillErrands x = Ask.town(10, 10, 30);
    for (int sort = 0; sort < 3; sort++) {
      Ask.due("one PLACE twice", x.stair(1, 1, sort), -1);
      Ask.due("first", x.stair(-1, 1, sort), -1);
      Ask.due("first", x.stair(3, 1, sort), -1);
      Ask.due("second", x.stair(1, -1, sort), -1);
      Ask.due("second", x.stair(1, 3, sort), -1);
      Ask.due("both", x.stair(3, 3, sort), -1);
    }
    Ask.due("sort 3", x.stair(2, 1, 3), -1);
    Ask.due("sort -1", x.stair(2, 1, -1), -1);
    for (int odd : Ask.extremes()) {
      Ask.due("first " + odd, x.stair(odd, 1, 0), -1);
      Ask.due("second " + odd, x.stair(1, odd, 0), -1);
      Ask.due("sort " + odd, x.stair(2, 1, odd), -1);
    }
    Ask.due("count(1)", x.count(1), 0);
    Ask.due("no PLACES", new HillErrands().stair(0, 1, 0), -1);
    Ask.due("one PLACE", Ask.town(5).stair(0, 1, 0), -1);
    Ask.due("the first number", x.stair(0, 2, 0), 0);
    Ask.due("like one between the same", x.stair(0, 2, 0), 1);
    Ask.due("the other way round", x.stair(2, 0, 0), 2);
  }

  private static void sorts() {
    Ask.sentence("1 a slide (from the first to the second alone, not upward)");
    HillErrands x = Ask.town(10, 11, 10, 9);
    Ask.due("one step upward", x.stair(0, 1, 1), -1);
    Ask.due("two steps upward", x.stair(3, 1, 1), -1);
    Ask.due("level", x.stair(0, 2, 1), 0);
    Ask.due("one step down", x.stair(1, 0, 1), 1);
    Ask.due("two steps down", x.stair(1, 3, 1), 2);
    Ask.due("count(1)", x.count(1), 3);
    for (int s = 0; s < 3; s++) {
      Ask.due("from the first", x.going(s, false, 0), 0);
      Ask.due("not from the second", x.going(s, true, 0), -2);
    }
    Ask.due("way", x.way(1, 2, 0, -1), 0);
    Ask.due("no way back on the level", x.way(2, 0, 0, -1), -2);
    Ask.due("no way up", x.way(0, 1, 0, -1), -2);
    Ask.sentence("0 a stair (both ways)");
    HillErrands y = Ask.town(10, 11);
    Ask.due("upward", y.stair(0, 1, 0), 0);
    Ask.due("up", y.way(0, 1, 0, -1), 1);
    Ask.due("down", y.way(1, 0, 0, -1), 0);
    HillErrands v = Ask.town(10, 11);
    Ask.due("downward", v.stair(1, 0, 0), 0);
    Ask.due("up", v.way(0, 1, 0, -1), 1);
    Ask.due("down", v.way(1, 0, 0, -1), 0);
    Ask.sentence("2 a rope (both ways)");
    HillErrands z = Ask.town(10, 11);
    Ask.due("upward", z.stair(0, 1, 2), 0);
    Ask.due("up", z.way(0, 1, 0, -1), 1);
    Ask.due("down", z.way(1, 0, 0, -1), 0);
  }

  // ---- promise 4

  private static void season() {
    Ask.sentence("SEASON (0 to 3; 0 at first)");
    HillErrands x = Ask.town(0, 5);
    x.stair(0, 1, 0);
    Ask.due("at first", x.count(4), 0);
    for (int w = 3; w >= 0; w--) {
      Ask.sentence("SEASON: true; false: no such one.");
      Ask.due("season", x.season(w), true);
      Ask.due("count(4)", x.count(4), w);
      Ask.due("4", x.season(4), false);
      Ask.due("-1", x.season(-1), false);
      for (int odd : Ask.extremes()) {
        Ask.due("" + odd, x.season(odd), false);
      }
      Ask.due("count(4)", x.count(4), w);
    }
  }

  // ---- promise 8

  private static void leastWays() {
    Ask.sentence("COST from a PLACE to another one with a LOAD: the least of all ways");
    // straight on for 9, or by 1 and 2 for 2 each
    HillErrands x = Ask.level(4);
    x.stair(0, 3, 0);
    Ask.row(x, 2, 0, 1, 2, 3);
    Ask.law(x, "c9-l(k=0);c2(0=0)");
    Ask.due("by three ropes", x.way(0, 3, 0, -1), 6);
    Ask.due("by three ropes", x.way(0, 3, 0, 20), 3);
    Ask.due("by three ropes", x.way(0, 3, 2, 20), 3);
    Ask.due("of like COST the fewest", x.way(0, 3, 3, -1), 6);
    Ask.due("of like COST the fewest", x.way(0, 3, 3, 20), 1);
    Ask.due("by the stair", x.way(0, 3, 4, -1), 5);
    Ask.due("by the stair", x.way(0, 3, 9, -1), 0);
    Ask.due("by the stair", x.way(0, 3, 99, -1), 0);
    Ask.due("round about for nothing", x.way(0, 2, 99, -1), 2);
    Ask.due("round about", x.way(0, 2, 99, 20), 2);
    // of some between the same two the cheapest one, wherever it is told
    for (int cheap = 0; cheap < 3; cheap++) {
      HillErrands y = Ask.level(2);
      for (int s = 0; s < 3; s++) {
        y.stair(s % 2, (s + 1) % 2, 0);
      }
      Ask.law(y, "c3(s=" + cheap + ");c5(0=0)");
      Ask.due("the cheapest", y.way(0, 1, 0, -1), 3);
      Ask.due("the cheapest", y.way(1, 0, 0, -1), 3);
    }
    // 19 dear ones in a row
    HillErrands z = new HillErrands();
    for (int p = 0; p < 20; p++) {
      z.place(p);
    }
    for (int p = 19; p > 0; p--) {
      z.stair(p, p - 1, 0);
    }
    Ask.due("the longest", z.way(0, 19, 0, -1), 19);
    Ask.law(z, "c9999(0=0)");
    Ask.due("the dearest", z.way(0, 19, 0, -1), 19 * 9999);
    Ask.due("and back", z.way(19, 0, 99, -1), 19 * 9999);
    Ask.due("its STAIRS", z.way(19, 0, 0, 20), 19);
    Ask.due("its last PLACE", z.way(19, 0, 0, 19), 0);
  }

  private static void wayOfFewestStairs() {
    Ask.sentence("THE WAY: of these of fewest STAIRS");
    // all goings down are free: from 3 by 2 and 1, by 1, or at once
    HillErrands x = Ask.town(0, 10, 20, 30);
    Ask.row(x, 0, 3, 2, 1, 0);
    Ask.due("three", x.way(3, 0, 0, 20), 3);
    x.stair(3, 1, 1);
    Ask.due("two", x.way(3, 0, 0, 20), 2);
    Ask.due("by 1", x.way(3, 0, 0, 1), 1);
    x.stair(3, 0, 1);
    Ask.due("one", x.way(3, 0, 0, 20), 1);
    Ask.due("at once", x.way(3, 0, 0, 1), 0);
    Ask.due("the slides do not lead up", x.way(0, 3, 0, 20), 3);
    // COST comes ahead of STAIRS
    Ask.law(x, "c1(k=1)");
    Ask.due("dearer by one", x.way(3, 0, 0, 20), 3);
    Ask.due("dearer by one", x.way(3, 0, 0, -1), 0);
    // fewest STAIRS come ahead of the least row
    HillErrands y = Ask.level(5);
    Ask.row(y, 0, 0, 1, 2, 4);
    Ask.row(y, 0, 0, 3, 4);
    Ask.due("by 3", y.way(0, 4, 0, 20), 2);
    Ask.due("by 3", y.way(0, 4, 0, 1), 3);
    Ask.due("the end", y.way(0, 4, 0, 2), 4);
    Ask.due("by 3", y.way(4, 0, 0, 1), 3);
  }

  private static void leastRow() {
    Ask.sentence("then the least row of PLACES");
    HillErrands x = Ask.level(12);
    Ask.row(x, 0, 0, 10, 1, 11);
    Ask.row(x, 0, 0, 2, 9, 11);
    Ask.due("2 is less than 10", x.way(0, 11, 0, 1), 2);
    Ask.due("then 9", x.way(0, 11, 0, 2), 9);
    Ask.due("back: 1 is less than 9", x.way(11, 0, 0, 1), 1);
    Ask.due("then 10", x.way(11, 0, 0, 2), 10);
    // the same first, then the less
    Ask.row(x, 2, 2, 8);
    Ask.row(x, 2, 8, 11);
    Ask.due("then 8", x.way(0, 11, 0, 2), 8);
    Ask.due("the end", x.way(0, 11, 0, 3), 11);
    Ask.due("no more", x.way(0, 11, 0, 4), -1);
    Ask.due("COST", x.way(0, 11, 0, -1), 0);
    // a less row of more COST is none of them
    HillErrands y = Ask.level(4);
    Ask.row(y, 0, 0, 1, 3);
    Ask.row(y, 2, 0, 2, 3);
    Ask.due("by 1", y.way(0, 3, 0, 1), 1);
    Ask.law(y, "c1(g=1)");
    Ask.due("by 2", y.way(0, 3, 0, 1), 2);
    Ask.due("back by 2", y.way(3, 0, 0, 1), 2);
    Ask.law(y, "c1(f=1)");
    Ask.due("by 2", y.way(0, 3, 0, 1), 2);
    Ask.law(y, "n(g=1&l>4)");
    Ask.due("by 1", y.way(0, 3, 4, 1), 1);
    Ask.due("by 2", y.way(0, 3, 5, 1), 2);
  }

  private static void toItself() {
    Ask.sentence("(To itself: 0, no STAIR.)");
    HillErrands x = Ask.town(5, 5);
    for (int i = 0; i < 3; i++) {
      for (int p = 0; p < 2; p++) {
        Ask.due("COST", x.way(p, p, 0, -1), 0);
        Ask.due("COST", x.way(p, p, 99, -1), 0);
        Ask.due("STAIRS", x.way(p, p, 0, 20), 0);
        Ask.due("the first PLACE", x.way(p, p, 0, 0), p);
        Ask.due("no second one", x.way(p, p, 0, 1), -1);
        Ask.due("no last one", x.way(p, p, 0, 19), -1);
      }
      x.stair(0, 1, 0);
      Ask.law(x, i == 0 ? "c5(0=0)" : "n(0=0)");
    }
    Ask.due("no way to the other one", x.way(0, 1, 0, -1), -2);
  }

  private static void partsOfTheWay() {
    Ask.sentence("COST (what NONE), how many STAIRS THE WAY has (20), else the PLACE at place what of it (0: from)");
    for (int n = 2; n <= 20; n++) {
      HillErrands x = new HillErrands();
      for (int p = 0; p < n; p++) {
        x.place(3 * p);
      }
      for (int p = 1; p < n; p++) {
        x.stair(p - 1, p, p % 2 * 2);
      }
      Ask.due("COST", x.way(0, n - 1, 0, -1), 3 * (n - 1));
      Ask.due("STAIRS", x.way(0, n - 1, 0, 20), n - 1);
      for (int what = 0; what < 20; what++) {
        Ask.due("PLACE at " + what, x.way(0, n - 1, 0, what), what < n ? what : -1);
        Ask.due("back: PLACE at " + what, x.way(n - 1, 0, 0, what), what < n ? n - 1 - what : -1);
      }
      Ask.due("what 21", x.way(0, n - 1, 0, 21), -1);
      Ask.due("what -2", x.way(0, n - 1, 0, -2), -1);
    }
  }

  private static void noWay() {
    Ask.sentence("-2: there is no way; NONE: no such ones, no such place.");
    HillErrands x = Ask.town(0, 10, 5);
    Ask.due("no STAIRS", x.way(0, 1, 0, -1), -2);
    x.stair(1, 0, 1);
    Ask.due("not up a slide", x.way(0, 1, 0, -1), -2);
    Ask.due("down it", x.way(1, 0, 0, -1), 0);
    Ask.due("STAIRS", x.way(0, 1, 0, 20), -2);
    x.stair(0, 1, 2);
    Ask.due("by the rope", x.way(0, 1, 0, -1), 10);
    Ask.law(x, "n(k=2&l>5)");
    Ask.due("forbidden by LOAD", x.way(0, 1, 6, -1), -2);
    Ask.due("not forbidden", x.way(0, 1, 5, -1), 10);
    Ask.due("not forbidden", x.way(1, 0, 6, -1), 0);
    Ask.sentence("in way() NONE of a place that is not there behind -2.");
    for (int what = 0; what <= 20; what++) {
      Ask.due("no way, what " + what, x.way(0, 2, 0, what), -2);
      Ask.due("no way, what " + what, x.way(0, 1, 6, what), -2);
    }
  }

  private static void noSuchWay() {
    Ask.sentence("-2: there is no way; NONE: no such ones, no such place.");
    HillErrands x = Ask.town(0, 10, 5);
    x.stair(0, 1, 0);
    int[][] none = {{3, 1, 0, -1}, {-1, 1, 0, -1}, {1, 3, 0, -1}, {1, -1, 0, -1}, {0, 1, 100, -1}, {0, 1, -1, -1},
        {0, 1, 0, 21}, {0, 1, 0, -2}, {3, 3, 0, -1}, {0, 1, 0, 2}, {0, 1, 0, 19}};
    for (int[] a : none) {
      Ask.due("way(" + a[0] + ", " + a[1] + ", " + a[2] + ", " + a[3] + ")", x.way(a[0], a[1], a[2], a[3]), -1);
    }
    for (int odd : Ask.extremes()) {
      Ask.due("from " + odd, x.way(odd, 1, 0, -1), -1);
      Ask.due("to " + odd, x.way(0, odd, 0, -1), -1);
      Ask.due("LOAD " + odd, x.way(0, 1, odd, -1), -1);
      Ask.due("what " + odd, x.way(0, 1, 0, odd), -1);
    }
    // ahead of -2
    Ask.due("what 21, no way", x.way(0, 2, 0, 21), -1);
    Ask.due("what -2, no way", x.way(0, 2, 0, -2), -1);
    Ask.due("LOAD 100, no way", x.way(0, 2, 100, -1), -1);
    Ask.due("LOAD -1, no way", x.way(0, 2, -1, 5), -1);
  }

  /** A way that was asked before is not told again when the town has become another one. */
  private static void waysFollowTheTown() {
    Ask.sentence("COST from a PLACE to another one with a LOAD: the least of all ways");
    HillErrands x = Ask.town(0, 10);
    Ask.due("no STAIR", x.way(0, 1, 7, -1), -2);
    x.keep();
    x.stair(0, 1, 0);
    Ask.due("by a stair", x.way(0, 1, 7, -1), 10);
    Ask.law(x, "cw+l+1(0=0)");
    Ask.due("by a law", x.way(0, 1, 7, -1), 8);
    x.season(3);
    Ask.due("in another SEASON", x.way(0, 1, 7, -1), 11);
    Ask.due("another LOAD", x.way(0, 1, 8, -1), 12);
    Ask.law(x, "cw+1(0=0)");
    Ask.due("by a law without LOAD", x.way(0, 1, 7, -1), 4);
    Ask.due("by a law without LOAD", x.way(0, 1, 0, -1), 4);
    x.place(20);
    Ask.due("a new PLACE", x.way(0, 2, 7, -1), -2);
    x.stair(1, 2, 0);
    Ask.due("a new STAIR", x.way(0, 2, 7, -1), 8);
    x.undo();
    Ask.due("undone", x.way(0, 1, 7, -1), -2);
    Ask.due("to itself", x.way(1, 1, 7, -1), 0);
  }

  // ---- promises 29 and 30

  private static void kept() {
    Ask.sentence("KEPT: how many STAIRS there are.");
    HillErrands x = Ask.town(0, 10);
    Ask.due("none", x.keep(), 0);
    for (int s = 0; s < 40; s++) {
      x.stair(0, 1, 0);
      Ask.due("keep", x.keep(), s + 1);
    }
    x.stair(0, 1, 0);
    Ask.due("full", x.keep(), 40);
    Ask.due("count(1)", x.count(1), 40);
    Ask.due("without PLACES", new HillErrands().keep(), 0);
    Ask.sentence("UNDONE: true; false: none was KEPT.");
    HillErrands y = Ask.town(0, 10);
    y.stair(0, 1, 0);
    y.season(2);
    Ask.due("none was KEPT", y.undo(), false);
    Ask.due("STAIRS stay", y.count(1), 1);
    Ask.due("SEASON stays", y.count(4), 2);
    y.keep();
    Ask.due("KEPT", y.undo(), true);
    Ask.due("STAIRS stay", y.count(1), 1);
    Ask.due("SEASON stays", y.count(4), 2);
    HillErrands z = Ask.town(0, 10);
    z.keep();
    z.stair(0, 1, 0);
    z.season(1);
    Ask.due("KEPT without STAIRS", z.undo(), true);
    Ask.due("no STAIRS", z.count(1), 0);
    Ask.due("SEASON 0", z.count(4), 0);
    Ask.due("no going", z.going(0, false, 0), -1);
  }

  private static void undone() {
    Ask.sentence("UNDONE: as they were KEPT last (STAIRS told since fall).");
    HillErrands x = Ask.town(0, 10, 30);
    x.stair(0, 1, 0);
    x.season(1);
    Ask.due("keep", x.keep(), 1);
    x.stair(0, 1, 2);
    x.stair(1, 2, 2);
    x.season(2);
    Ask.due("keep", x.keep(), 3);
    x.stair(0, 2, 0);
    x.season(3);
    Ask.due("undo", x.undo(), true);
    Ask.due("STAIRS as KEPT last", x.count(1), 3);
    Ask.due("SEASON as KEPT last", x.count(4), 2);
    Ask.due("the fallen one", x.going(3, false, 0), -1);
    Ask.due("the last one", x.going(2, false, 0), 20);
    Ask.due("its number is told again", x.stair(2, 0, 1), 3);
    Ask.due("it is another one", x.going(3, true, 0), -2);
    Ask.due("undo again", x.undo(), true);
    Ask.due("STAIRS as KEPT last", x.count(1), 3);
    Ask.due("undo once more", x.undo(), true);
    Ask.due("keep", x.keep(), 3);

    Ask.sentence("KEPT: STAIRS and SEASON as they are;");
    HillErrands y = Ask.town(0, 10);
    y.keep();
    y.place(20);
    y.stair(0, 1, 0);
    Ask.law(y, "c4(0=0);c5(0=0)");
    y.errand(3, 1, 1, 1);
    y.person(0, 1, 1);
    y.thing(4, 0, 1, 1);
    y.wants(1, 9);
    y.fare(0, 1, 1);
    y.seed(5);
    y.feed(0, 0, 0, 0, 0);
    Ask.due("undo", y.undo(), true);
    int[] due = {3, 0, 2, 20, 0, 8, 1, 16, 1, 5};
    for (int what = 0; what < 10; what++) {
      Ask.due("count(" + what + ")", y.count(what), due[what]);
    }
    Ask.due("what it wants", y.count(41), 9);
    y.stair(0, 1, 0);
    Ask.due("the LAW stays", y.going(0, false, 0), 4);
  }

  // ---- promise 31

  private static HillErrands checkTown() {
    HillErrands x = Ask.town(0, 10, 30, 5);
    Ask.row(x, 0, 0, 1, 2);
    return x;
  }

  private static void checked() {
    Ask.sentence("NONE: right; else the place of the first number that is not so (n: some are lacking)");
    HillErrands x = checkTown();
    int[] right = {0, 10, 30, -2};
    Ask.due("right", Ask.check(x, 0, right), -1);
    Ask.due("the tape is empty", x.count(3), 0);
    for (int i = 0; i < 4; i++) {
      for (int add : new int[] {1, -1, Integer.MIN_VALUE, 1 << 16}) {
        int[] odd = right.clone();
        odd[i] += add;
        Ask.due("number " + i + " is not so", Ask.check(x, 0, odd), i);
        Ask.due("the tape is empty", x.count(3), 0);
        for (int j = i + 1; j < 4; j++) {
          odd[j]++;
        }
        Ask.due("the first of some", Ask.check(x, 0, odd), i);
      }
    }
    for (int n = 1; n < 4; n++) {
      Ask.tape(x, 0, 0, 0, 0, 0, 0, 0, 10, 0, 0, 0, 30, -1, -1, -1, -2);
      Ask.due("some are lacking", x.check(0, n), n);
      Ask.due("the tape is empty", x.count(3), 0);
      Ask.tape(x, 0, 0, 0, 0, 0, 0, 0, 10, 0, 0, 0, 30, -1, -1, -1, -2);
      Ask.due("from 1: lacking, or the first that is not so", x.check(1, n), 1);
    }
    Ask.due("none is there", x.check(0, 0), 0);
    x.feed(0, 10, 30, -2, 0);
    Ask.due("none is asked", x.check(0, 0), 0);
    Ask.due("the tape is empty", x.count(3), 0);
    Ask.due("one PLACE", Ask.check(Ask.town(7), 0, 0), -1);
    Ask.due("one PLACE", Ask.check(Ask.town(7), 0, 1), 0);
    HillErrands full = new HillErrands();
    int[] all = new int[20];
    for (int p = 0; p < 20; p++) {
      full.place(10 * p);
      all[p] = 10 * p;
    }
    for (int p = 1; p < 20; p++) {
      full.stair(p - 1, p, 0);
    }
    Ask.due("all 20", Ask.check(full, 0, all), -1);
    int[] more = Arrays.copyOf(all, 21);
    more[20] = 7;
    Ask.due("a 21st number of 20", Ask.check(full, 0, more), 20);
    int[] down = new int[21];
    down[20] = 7;
    Ask.due("a 21st number of 20, from the last PLACE", Ask.check(full, 19, down), 20);
    all[19]++;
    Ask.due("the 20th", Ask.check(full, 0, all), 19);
    Ask.due("19 of 20", Ask.check(full, 0, Arrays.copyOf(all, 19)), 19);
  }

  private static void checkedNumbers() {
    Ask.sentence("CHECK of a PLACE: COSTS (LOAD 0) to PLACES 0, 1, ..: right, or the first number that is not so (-2 where there is no way).");
    HillErrands x = checkTown();
    Ask.due("from 1", Ask.check(x, 1, 0, 0, 20, -2), -1);
    Ask.due("from 2", Ask.check(x, 2, 0, 0, 0, -2), -1);
    Ask.due("from 3", Ask.check(x, 3, -2, -2, -2, 0), -1);
    Ask.due("-1 where there is no way", Ask.check(x, 0, 0, 10, 30, -1), 3);
    Ask.due("0 where there is no way", Ask.check(x, 0, 0, 10, 30, 0), 3);
    Ask.due("254 is not -2", Ask.check(x, 0, 0, 10, 30, 254), 3);
    Ask.due("65534 is not -2", Ask.check(x, 0, 0, 10, 30, 65534), 3);
    Ask.due("-2 where there is one", Ask.check(x, 0, 0, -2, 30, -2), 1);
    Ask.law(x, "c500+l*7(u>0);n(l>0)");
    Ask.due("more than a byte, LOAD 0", Ask.check(x, 0, 0, 500, 1000, -2), -1);
    Ask.due("the low byte alone", Ask.check(x, 0, 0, 500 & 255, 1000, -2), 1);
    Ask.law(x, "c9999(0=0)");
    Ask.due("two dear ones", Ask.check(x, 0, 0, 9999, 19998, -2), -1);
  }

  private static void checkRefused() {
    Ask.sentence("-2: no such one, it has not so many (the tape stays).");
    HillErrands x = checkTown();
    Ask.due("of an empty tape", x.check(0, 1), -2);
    x.feed(0, 10, 30, -2, 0);
    Ask.due("no such PLACE", x.check(4, 4), -2);
    Ask.due("no such PLACE", x.check(-1, 4), -2);
    Ask.due("6 of 5", x.check(0, 6), -2);
    Ask.due("n -1", x.check(0, -1), -2);
    Ask.due("20 bytes are not 20 numbers", x.check(0, 20), -2);
    for (int odd : Ask.extremes()) {
      Ask.due("PLACE " + odd, x.check(odd, 4), -2);
      Ask.due("n " + odd, x.check(0, odd), -2);
    }
    Ask.due("2^30 numbers have 2^32 bytes", x.check(0, 1 << 30), -2);
    Ask.due("the tape stays", x.count(3), 20);
    Ask.due("as it is", x.check(0, 4), -1);
    x.feed(0, 10, 30, -2, 0);
    Ask.due("a fifth number of four", x.check(0, 5), 4);
    for (int i = 0; i < 10; i++) {
      x.feed(0, 10, 30, -2, 0);
    }
    Ask.due("51 of 50", x.check(0, 51), -2);
    Ask.due("the tape stays", x.count(3), 200);
    Ask.due("none of no PLACES", new HillErrands().check(0, 0), -2);
  }

  // ---- promise 32

  private static void counts() {
    Ask.sentence("20 + p the HEIGHT of PLACE p, 40 + p what it wants. NONE for others.");
    HillErrands x = new HillErrands();
    for (int p = 0; p < 20; p++) {
      Ask.due("not there", x.count(20 + p), -1);
      Ask.due("not there", x.count(40 + p), -1);
      x.place(199 - p);
      Ask.due("HEIGHT", x.count(20 + p), 199 - p);
      Ask.due("wants 0 at first", x.count(40 + p), 0);
      x.wants(p, 99 - p);
      Ask.due("wants", x.count(40 + p), 99 - p);
    }
    for (int what = -30; what < 0; what++) {
      Ask.due("count(" + what + ")", x.count(what), -1);
    }
    for (int what = 10; what < 20; what++) {
      Ask.due("count(" + what + ")", x.count(what), -1);
    }
    for (int what = 60; what < 120; what++) {
      Ask.due("count(" + what + ")", x.count(what), -1);
    }
    for (int odd : Ask.extremes()) {
      Ask.due("count(" + odd + ")", x.count(odd), -1);
    }
    Ask.due("HEIGHT of the first", x.count(20), 199);
    Ask.due("HEIGHT of the last", x.count(39), 180);
    Ask.due("the first wants", x.count(40), 99);
    Ask.due("the last wants", x.count(59), 80);

    Ask.sentence("0 PLACES, 1 STAIRS, 2 CLAUSES, 3 bytes of the tape, 4 SEASON, 5 told ERRANDS (bits), 6 PEOPLE, 7 told THINGS (bits), 8 FARES, 9 X");
    HillErrands y = Ask.town(0, 0, 0);
    y.stair(0, 1, 0);
    Ask.law(y, "c4(0=0);c5(0=0)");
    for (int i = 0; i < 3; i++) {
      y.feed(0, 0, 0, 0, 0);
    }
    y.season(3);
    y.errand(2, 0, 0, 0);
    y.errand(7, 0, 0, 0);
    for (int i = 0; i < 5; i++) {
      y.person(0, 0, 0);
    }
    y.thing(0, 0, 0, 0);
    y.thing(3, 0, 0, 0);
    for (int i = 0; i < 6; i++) {
      y.fare(0, 1, i);
    }
    y.seed(65535);
    int[] due = {3, 1, 2, 60, 3, 132, 5, 9, 6, 65535};
    for (int what = 0; what < 10; what++) {
      Ask.due("count(" + what + ")", y.count(what), due[what]);
    }
    for (int i = 0; i < 8; i++) {
      y.errand(i, 0, 0, 0);
      y.thing(i, 0, 0, 0);
    }
    Ask.due("all ERRANDS", y.count(5), 255);
    Ask.due("all THINGS", y.count(7), 255);
  }
}
