import java.io.IOException;

/** The sentences about shops, one stair more and meeting: promises 19 to 23. */
public final class ShopSentenceTests {
  public static void main(String[] args) throws IOException {
    shopsCosts();
    shopsOutOfReach();
    shopsSets();
    shopBest();
    shopOfLikeOnes();
    shopBounds();
    themselvesDigits();
    themselvesWhats();
    themselvesMove();
    themselvesStay();
    themselvesTurns();
    themselvesRounds();
    themselvesOutOfReach();
    oneMoreCosts();
    oneMoreJoins();
    oneMoreOfLikeOnes();
    oneMoreSlides();
    oneMoreLaw();
    oneMoreRefused();
    meetBoth();
    meetForTheOne();
    meetNowhere();
    meetRefused();
    Ask.finish(args);
  }

  /** Level places in a row; each stair costs 1, both ways. */
  private static HillErrands row(int places) {
    HillErrands x = Ask.level(places);
    for (int p = 1; p < places; p++) {
      x.stair(p - 1, p, 0);
    }
    Ask.law(x, "c1(0=0)");
    return x;
  }

  private static void people(HillErrands x, int... begins) {
    for (int begin : begins) {
      x.person(begin, begin, 0);
    }
  }

  // ---- promise 19

  private static void shopsCosts() {
    Ask.sentence("SHOPS: for all PEOPLE (from where they begin): COST to the nearest SHOP by COST there and back (LOAD 0;");
    HillErrands x = Ask.town(0, 10, 30, 60);
    Ask.row(x, 0, 0, 1, 2, 3);
    Ask.due("no PEOPLE", x.shops(1), 0);
    x.person(0, 3, 0);
    Ask.due("up, and back for nothing", x.shops(2), 10);
    Ask.due("up, and back for nothing", x.shops(8), 60);
    Ask.due("at home", x.shops(1), 0);
    x.person(3, 0, 99);
    Ask.due("down for nothing, and back", x.shops(1), 60);
    Ask.due("both", x.shops(4), 30 + 30);
    Ask.due("each to his nearest", x.shops(6), 10 + 30);
    Ask.due("each to his nearest", x.shops(9), 0);
    Ask.due("three", x.shops(7), 0 + 30);
    Ask.due("three", x.shops(14), 10);
    x.person(0, 0, 0);
    Ask.due("each counts", x.shops(2), 10 + 50 + 10);
    // there and back, not there alone
    HillErrands y = Ask.level(3);
    y.stair(0, 1, 0);
    y.stair(0, 2, 0);
    Ask.law(y, "c1+l*5(f=0&g=1);c9(f=1);c4(0=0)");
    y.person(0, 0, 0);
    Ask.due("1 and 9", y.shops(2), 10);
    Ask.due("4 and 4", y.shops(4), 8);
    Ask.due("the nearest by both", y.shops(6), 8);
  }

  private static void shopsOutOfReach() {
    Ask.sentence("to none that can't be come to and back from; 1000 if there is none), together.");
    HillErrands x = Ask.town(60, 0, 60, 60);
    x.stair(0, 1, 1);
    x.stair(2, 0, 1);
    people(x, 0);
    Ask.due("there, but not back", x.shops(2), 1000);
    Ask.due("back, but not there", x.shops(4), 1000);
    Ask.due("neither", x.shops(8), 1000);
    Ask.due("none of three", x.shops(14), 1000);
    Ask.due("one of them", x.shops(3), 0);
    Ask.due("one of them", x.shops(13), 0);
    people(x, 1, 3);
    Ask.due("each by himself", x.shops(1), 2000);
    Ask.due("each by himself", x.shops(4), 3000);
    x.stair(0, 1, 2);
    Ask.due("a rope back", x.shops(2), 60 + 0 + 1000);
    // 1000 is no bound of what can be
    HillErrands y = row(2);
    people(y, 0);
    Ask.law(y, "c499(0=0)");
    Ask.due("998", y.shops(2), 998);
    Ask.law(y, "c500(0=0)");
    Ask.due("1000", y.shops(2), 1000);
    Ask.law(y, "c501(0=0)");
    Ask.due("1002", y.shops(2), 1002);
    Ask.law(y, "c9999(0=0)");
    Ask.due("19998", y.shops(2), 19998);
    Ask.law(y, "n(0=0)");
    Ask.due("none", y.shops(2), 1000);
    Ask.law(y, "n(l>0)");
    Ask.due("LOAD 0", y.shops(2), 0);
  }

  private static void shopsSets() {
    Ask.sentence("SHOPS at PLACES (bits; 1 to 3 of them): COSTS of all; NONE: no such ones.");
    HillErrands x = row(5);
    people(x, 0, 4);
    Ask.due("none", x.shops(0), -1);
    Ask.due("one", x.shops(4), 8);
    Ask.due("two", x.shops(12), 4 + 2);
    Ask.due("three", x.shops(14), 2 + 2);
    Ask.due("four", x.shops(15), -1);
    Ask.due("five", x.shops(31), -1);
    Ask.due("PLACE 5", x.shops(32), -1);
    Ask.due("PLACE 5, too", x.shops(33), -1);
    Ask.due("bit 30", x.shops(1 << 30 | 1), -1);
    Ask.due("bit 31", x.shops(1 << 31 | 1), -1);
    Ask.due("-1", x.shops(-1), -1);
    for (int far : Ask.extremes()) {
      Ask.due("" + far, x.shops(far), -1);
    }
    Ask.due("no PLACES", new HillErrands().shops(1), -1);
    HillErrands full = row(20);
    people(full, 19, 0);
    Ask.due("the last ones", full.shops(7 << 17), 38 - 4);
    Ask.due("the first and the last", full.shops(1 | 1 << 19), 0);
    Ask.due("PLACE 20", full.shops(1 << 20), -1);
    Ask.due("PLACE 20, too", full.shops(1 | 1 << 20), -1);
  }

  // ---- promise 20

  private static void shopBest() {
    Ask.sentence("BEST of n (1 to 3) different PLACES: least;");
    HillErrands x = Ask.town(0, 10, 30, 60);
    Ask.row(x, 0, 0, 1, 2, 3);
    people(x, 1, 3, 2);
    int[][] due = {{50, 2}, {20, 1, 3}, {0, 1, 2, 3}};
    for (int n = 1; n <= 3; n++) {
      Ask.due("COSTS of " + n, x.shop(n, -1), due[n - 1][0]);
      for (int i = 0; i < n; i++) {
        Ask.due("PLACE at " + i + " of " + n, x.shop(n, i), due[n - 1][i + 1]);
      }
    }
    people(x, 0, 0, 0, 0);
    Ask.due("most are at 0", x.shop(1, 0), 0);
    Ask.due("COSTS", x.shop(1, -1), 10 + 60 + 30);
    Ask.due("0 and 2", x.shop(2, 0), 0);
    Ask.due("0 and 2", x.shop(2, 1), 2);
    Ask.due("COSTS", x.shop(2, -1), 10 + 30);
    Ask.due("by told PLACES", x.shops(5), 40);
    // a PLACE that one can't come back from is none, but costs 1000 alone
    HillErrands y = row(3);
    people(y, 0, 2);
    Ask.law(y, "c600(0=0)");
    Ask.due("0: 2400, 1: 2400", y.shop(1, -1), 2400);
    Ask.law(y, "c600(f<g|g=0);n(0=0)");
    Ask.due("1000 for one", y.shop(1, -1), 1000);
    Ask.due("at 0", y.shop(1, 0), 0);
    // the last three of twenty
    HillErrands z = Ask.level(20);
    people(z, 17, 18, 19);
    Ask.due("none for 1000", z.shop(3, -1), 0);
    for (int i = 0; i < 3; i++) {
      Ask.due("the last three", z.shop(3, i), 17 + i);
    }
    Ask.due("two of three", z.shop(2, -1), 1000);
    Ask.due("two of three", z.shop(2, 0), 17);
    Ask.due("two of three", z.shop(2, 1), 18);
    Ask.due("one of three", z.shop(1, -1), 2000);
    Ask.due("one of three", z.shop(1, 0), 17);
  }

  private static void shopOfLikeOnes() {
    Ask.sentence("of like ones the least row (ascending).");
    HillErrands x = row(4);
    for (int n = 1; n <= 3; n++) {
      for (int i = 0; i < n; i++) {
        Ask.due("no PEOPLE: PLACE at " + i + " of " + n, x.shop(n, i), i);
      }
    }
    people(x, 3);
    Ask.due("one", x.shop(1, 0), 3);
    Ask.due("two: 0 and 3", x.shop(2, 0), 0);
    Ask.due("two: 0 and 3", x.shop(2, 1), 3);
    Ask.due("three: 0, 1 and 3", x.shop(3, 1), 1);
    Ask.due("three: 0, 1 and 3", x.shop(3, 2), 3);
    people(x, 1);
    Ask.due("anywhere from 1 to 3: 1", x.shop(1, 0), 1);
    Ask.due("three: 0, 1 and 3", x.shop(3, 0), 0);
    Ask.due("three: 0, 1 and 3", x.shop(3, 2), 3);
    // 0 and 9 for 4 are like 1 and 2
    HillErrands y = row(12);
    people(y, 2, 10);
    Ask.due("of 2 to 10 the lowest", y.shop(1, 0), 2);
    Ask.due("two", y.shop(2, 0), 2);
    Ask.due("two", y.shop(2, 1), 10);
    Ask.due("three", y.shop(3, 0), 0);
    Ask.due("three", y.shop(3, 1), 2);
  }

  private static void shopBounds() {
    Ask.sentence("else the PLACE at place what; NONE also: no such ones, fewer PLACES.");
    for (int places = 0; places <= 4; places++) {
      HillErrands x = row(places);
      for (int n = -1; n <= 5; n++) {
        for (int what = -3; what <= 12; what++) {
          boolean right = n >= 1 && n <= 3 && n <= places && what >= 0 && what < n;
          boolean costs = n >= 1 && n <= 3 && n <= places && what == -1;
          Ask.due("shop(" + n + ", " + what + ") of " + places, x.shop(n, what), right ? what : costs ? 0 : -1);
        }
      }
    }
    HillErrands x = row(4);
    for (int far : Ask.extremes()) {
      Ask.due("n " + far, x.shop(far, -1), -1);
      Ask.due("what " + far, x.shop(1, far), -1);
    }
  }

  // ---- promise 21

  private static void themselvesDigits() {
    Ask.sentence("BY THEMSELVES from PLACES abc (two digits of twenty for each SHOP, a first: a + 20 b + 400 c), n SHOPS");
    HillErrands x = row(20);
    int[] spots = {0, 1, 7, 18, 19};
    for (int a : spots) {
      for (int b : spots) {
        Ask.due("a of two", x.themselves(a + 20 * b, 2, 0), a);
        Ask.due("b of two", x.themselves(a + 20 * b, 2, 1), b);
        for (int c : new int[] {0, 19}) {
          int abc = a + 20 * b + 400 * c;
          Ask.due("a of three", x.themselves(abc, 3, 0), a);
          Ask.due("b of three", x.themselves(abc, 3, 1), b);
          Ask.due("c of three", x.themselves(abc, 3, 2), c);
        }
      }
    }
    Ask.due("400 for two", x.themselves(400, 2, 0), -1);
    Ask.due("399 for two", x.themselves(399, 2, 0), 19);
    Ask.due("8000 for three", x.themselves(8000, 3, 0), -1);
    Ask.due("7999 for three", x.themselves(7999, 3, 2), 19);
    Ask.due("-1", x.themselves(-1, 2, 0), -1);
    Ask.due("-20", x.themselves(-20, 3, 0), -1);
    Ask.due("-400", x.themselves(-400, 3, 0), -1);
    for (int far : Ask.extremes()) {
      Ask.due("abc " + far, x.themselves(far, 2, 0), -1);
      Ask.due("abc " + far, x.themselves(far, 3, 0), -1);
      Ask.due("n " + far, x.themselves(0, far, 0), -1);
      Ask.due("what " + far, x.themselves(0, 2, far), -1);
    }
    HillErrands y = row(3);
    Ask.due("PLACE 2", y.themselves(2 + 40 + 800, 3, 2), 2);
    Ask.due("no a 3", y.themselves(3, 2, 0), -1);
    Ask.due("no b 3", y.themselves(60, 2, 0), -1);
    Ask.due("no c 3", y.themselves(1200, 3, 0), -1);
    Ask.due("no a 19", y.themselves(19, 3, 0), -1);
    Ask.sentence("BY THEMSELVES: n SHOPS (2 or 3) at told PLACES");
    Ask.due("n 2", y.themselves(0, 2, 0), 0);
    Ask.due("n 3", y.themselves(0, 3, 0), 0);
    Ask.due("n 1", y.themselves(0, 1, 0), -1);
    Ask.due("n 0", y.themselves(0, 0, 0), -1);
    Ask.due("n 4", y.themselves(0, 4, 0), -1);
    Ask.due("n -1", y.themselves(0, -1, 0), -1);
    Ask.due("no PLACES", new HillErrands().themselves(0, 2, 0), -1);
  }

  private static void themselvesWhats() {
    Ask.sentence("what 0 to 2 where that SHOP is then, 10 + i how many come to it, 20 in how many rounds some moved (-2: in all 20); NONE: no such ones.");
    HillErrands x = row(5);
    int abc = 1 + 20 * 3 + 400 * 4;
    for (int n = 2; n <= 3; n++) {
      int so = n == 2 ? 1 + 60 : abc;
      for (int what = -3; what < 40; what++) {
        boolean spot = what >= 0 && what < n;
        boolean comers = what >= 10 && what < 10 + n;
        int due = spot ? new int[] {1, 3, 4}[what] : comers || what == 20 ? 0 : -1;
        Ask.due("what " + what + " of " + n, x.themselves(so, n, what), due);
      }
    }
    people(x, 0, 1, 3, 3, 4);
    Ask.due("3 at 3", x.themselves(abc, 3, 0) >= 0, true);
    int sum = 0;
    for (int i = 0; i < 3; i++) {
      sum += x.themselves(abc, 3, 10 + i);
    }
    Ask.due("each one comes to one", sum, 5);
  }

  private static void themselvesMove() {
    Ask.sentence("each moves to the PLACE (any) by which most PEOPLE would come to it");
    // alone in its own part, a SHOP has who is there: four parts that no STAIR joins, of 1, 2, 3 and 0 PEOPLE
    HillErrands x = Ask.level(5);
    people(x, 1, 2, 2, 3, 3, 3);
    Ask.due("a goes to 3", x.themselves(0, 2, 0), 3);
    Ask.due("b goes to 2", x.themselves(0, 2, 1), 2);
    Ask.due("3 come", x.themselves(0, 2, 10), 3);
    Ask.due("2 come", x.themselves(0, 2, 11), 2);
    Ask.due("in one round", x.themselves(0, 2, 20), 1);
    Ask.due("c goes to 1", x.themselves(0, 3, 2), 1);
    Ask.due("1 comes", x.themselves(0, 3, 12), 1);
    Ask.due("in one round", x.themselves(0, 3, 20), 1);
    // b stands at 3: of like ones to the SHOP of the lower number, so a takes it
    int abc = 0 + 20 * 3;
    Ask.due("a goes to 3, too", x.themselves(abc, 2, 0), 3);
    Ask.due("b goes on to 2", x.themselves(abc, 2, 1), 2);
    // a stands at 3: b can't have those
    abc = 3 + 20 * 0;
    Ask.due("a stays", x.themselves(abc, 2, 0), 3);
    Ask.due("b goes to 2", x.themselves(abc, 2, 1), 2);
    Ask.due("in one round", x.themselves(abc, 2, 20), 1);
    // b where most are left, a where most are: none moves
    Ask.due("none moves", x.themselves(3 + 20 * 2, 2, 20), 0);
    Ask.due("none moves", x.themselves(3 + 20 * 2 + 400, 3, 20), 0);
    Ask.due("c moves", x.themselves(3 + 20 * 2 + 400 * 4, 3, 20), 1);
    Ask.due("c moves to 1", x.themselves(3 + 20 * 2 + 400 * 4, 3, 2), 1);
  }

  private static void themselvesStay() {
    Ask.sentence("of like ones it stays, then the lowest;");
    HillErrands x = row(5);
    people(x, 4);
    // b is at 4: a can have the one at 4 there alone, and then b can have none
    Ask.due("a: at 4", x.themselves(0 + 20 * 4, 2, 0), 4);
    Ask.due("b: stays, for it can have none", x.themselves(0 + 20 * 4, 2, 1), 4);
    Ask.due("one round", x.themselves(0 + 20 * 4, 2, 20), 1);
    // b is at 3, a has him at 4 already; b could be anywhere else as well
    Ask.due("a: stays", x.themselves(4 + 20 * 3, 2, 0), 4);
    Ask.due("b: stays", x.themselves(4 + 20 * 3, 2, 1), 3);
    Ask.due("no round", x.themselves(4 + 20 * 3, 2, 20), 0);
    // a has him at 3 and stays, b takes him at 4, then a goes there, too
    Ask.due("a: at 4", x.themselves(3 + 20 * 2, 2, 0), 4);
    Ask.due("two rounds", x.themselves(3 + 20 * 2, 2, 20), 2);
    // a to 2 (of 2, 3, 4), b to 3, a to 3, b to 4, a to 4
    Ask.due("three rounds by the lowest each time", x.themselves(0 + 20 * 2, 2, 20), 3);
    // alone in two parts
    HillErrands y = Ask.level(6);
    people(y, 1, 2, 4, 5);
    Ask.due("a: of four the lowest", y.themselves(0 + 20 * 3, 2, 0), 1);
    Ask.due("b: of three the lowest", y.themselves(0 + 20 * 3, 2, 1), 2);
    Ask.due("a at 5 stays", y.themselves(5 + 20 * 3, 2, 0), 5);
    Ask.due("b: the lowest", y.themselves(5 + 20 * 3, 2, 1), 1);
    Ask.due("both stay", y.themselves(5 + 20 * 4, 2, 20), 0);
    Ask.due("both at 5: a stays", y.themselves(5 + 20 * 5, 2, 0), 5);
    Ask.due("both at 5: b goes", y.themselves(5 + 20 * 5, 2, 1), 1);
    HillErrands none = row(5);
    Ask.due("no PEOPLE: all stay", none.themselves(4 + 20 * 4 + 400 * 4, 3, 20), 0);
    Ask.due("no PEOPLE: all stay", none.themselves(4 + 20 * 4 + 400 * 4, 3, 2), 4);
  }

  private static void themselvesTurns() {
    Ask.sentence("by turns: each moves to the PLACE");
    // a always goes to where b is, for all five come to it there, and b goes one on: a 4, b 3; a 3, b 2; a 2, b 1;
    // a 1, b 2; a 2, b 1 and so on: in every second round a 1, b 2
    HillErrands x = row(5);
    people(x, 0, 1, 2, 3, 4);
    Ask.due("in all 20", x.themselves(0 + 20 * 4, 2, 20), -2);
    Ask.due("a in the 20th", x.themselves(0 + 20 * 4, 2, 0), 1);
    Ask.due("b in the 20th", x.themselves(0 + 20 * 4, 2, 1), 2);
    Ask.due("a has 0 and 1", x.themselves(0 + 20 * 4, 2, 10), 2);
    Ask.due("b has 2, 3 and 4", x.themselves(0 + 20 * 4, 2, 11), 3);

    Ask.sentence("(nearest to it by there and back, of like ones to the SHOP of the lower number)");
    HillErrands y = row(3);
    people(y, 1);
    // both are like near: he comes to a, so b goes to 1, then a
    Ask.due("b goes to 1", y.themselves(0 + 20 * 2, 2, 1), 1);
    Ask.due("then a", y.themselves(0 + 20 * 2, 2, 0), 1);
    Ask.due("he comes to a", y.themselves(0 + 20 * 2, 2, 10), 1);
    Ask.due("none to b", y.themselves(0 + 20 * 2, 2, 11), 0);
    Ask.due("two rounds", y.themselves(0 + 20 * 2, 2, 20), 2);
    // three in parts of their own: who is at 1 comes to the first one there
    HillErrands v = Ask.level(5);
    people(v, 1, 1, 2, 3, 3, 3);
    Ask.due("all at 1: a goes to 3", v.themselves(1 + 20 + 400, 3, 0), 3);
    Ask.due("b has two and stays", v.themselves(1 + 20 + 400, 3, 1), 1);
    Ask.due("c goes to 2", v.themselves(1 + 20 + 400, 3, 2), 2);
    Ask.due("one round", v.themselves(1 + 20 + 400, 3, 20), 1);
    Ask.due("all at 3: a stays", v.themselves(3 + 60 + 1200, 3, 0), 3);
    Ask.due("b goes to 1", v.themselves(3 + 60 + 1200, 3, 1), 1);
    Ask.due("c goes to 2", v.themselves(3 + 60 + 1200, 3, 2), 2);
    Ask.due("a has three", v.themselves(3 + 60 + 1200, 3, 10), 3);
    Ask.due("b has two", v.themselves(3 + 60 + 1200, 3, 11), 2);
    Ask.due("c has one", v.themselves(3 + 60 + 1200, 3, 12), 1);
    // 1 is nearer there (1 and 9), 2 by there and back (4 and 4): he comes to b, so a goes to 0, and b can't have him
    HillErrands z = Ask.level(3);
    z.stair(0, 1, 0);
    z.stair(0, 2, 0);
    Ask.law(z, "c1(f=0&g=1);c9(f=1);c4(0=0)");
    people(z, 0);
    Ask.due("a goes to 0", z.themselves(1 + 20 * 2, 2, 0), 0);
    Ask.due("b stays", z.themselves(1 + 20 * 2, 2, 1), 2);
    Ask.due("one round", z.themselves(1 + 20 * 2, 2, 20), 1);
    // the other way round: b, at 1, has him not, and can't have him but at 0
    Ask.due("b goes to 0, then a", z.themselves(2 + 20 * 1, 2, 1), 0);
    Ask.due("a goes to 0", z.themselves(2 + 20 * 1, 2, 0), 0);
    Ask.due("two rounds", z.themselves(2 + 20 * 1, 2, 20), 2);
  }

  private static void themselvesRounds() {
    Ask.sentence("till none has moved in a whole round, or 20 rounds are over.");
    // one man at the far end: b goes one nearer, then a follows and b goes one nearer again; at last a follows alone
    for (int places = 2; places <= 20; places++) {
      HillErrands x = row(places);
      people(x, places - 1);
      Ask.due("rounds in a row of " + places, x.themselves(0, 2, 20), places < 20 ? places : -2);
      Ask.due("a at last", x.themselves(0, 2, 0), places - 1);
      Ask.due("b at last", x.themselves(0, 2, 1), places - 1);
      Ask.due("he comes to a", x.themselves(0, 2, 10), 1);
    }
    HillErrands y = Ask.town(0, 10, 30, 30, 50);
    Ask.row(y, 0, 0, 1, 2, 4);
    y.stair(4, 0, 1);
    y.stair(1, 3, 2);
    people(y, 0, 1);
    Ask.due("in all 20", y.themselves(4 + 20 * 2, 2, 20), -2);
    Ask.due("where a is then", y.themselves(4 + 20 * 2, 2, 0), 1);
    Ask.due("where b is then", y.themselves(4 + 20 * 2, 2, 1), 0);
    HillErrands one = Ask.level(1);
    people(one, 0, 0);
    Ask.due("one PLACE", one.themselves(0, 3, 20), 0);
    Ask.due("all come to a", one.themselves(0, 3, 10), 2);
    Ask.due("none to b", one.themselves(0, 3, 11), 0);
  }

  private static void themselvesOutOfReach() {
    Ask.sentence("to none that can't be come to and back from;");
    HillErrands x = Ask.town(30, 0, 30, 30);
    x.stair(0, 1, 1);
    x.stair(2, 0, 1);
    people(x, 0);
    Ask.due("a goes to 0 alone", x.themselves(1 + 20 * 2, 2, 0), 0);
    Ask.due("b has none anywhere", x.themselves(1 + 20 * 2, 2, 1), 2);
    Ask.due("a has one", x.themselves(1 + 20 * 2, 2, 10), 1);
    Ask.due("b has none", x.themselves(1 + 20 * 2, 2, 11), 0);
    Ask.due("c has none", x.themselves(1 + 20 * 2 + 400 * 3, 3, 12), 0);
    Ask.due("c stays", x.themselves(1 + 20 * 2 + 400 * 3, 3, 2), 3);
  }

  // ---- promise 22

  private static void oneMoreCosts() {
    Ask.sentence("by which the COSTS of all PEOPLE from beginning to end (1000 if it can't be) are least together;");
    HillErrands x = Ask.town(0, 10, 30, 60);
    x.stair(0, 1, 0);
    x.person(0, 3, 0);
    Ask.due("from 0 or 1 to 3: 60", x.oneMore(0, 2), 60);
    Ask.due("first", x.oneMore(0, 0), 0);
    Ask.due("second", x.oneMore(0, 1), 3);
    Ask.due("no slide leads there", x.oneMore(1, 2), 1000);
    x.person(3, 0, 0);
    Ask.due("one for both", x.oneMore(2, 2), 60);
    Ask.due("one for both", x.oneMore(2, 0), 0);
    Ask.due("one for both", x.oneMore(2, 1), 3);
    Ask.due("a slide for one", x.oneMore(1, 2), 1000);
    Ask.due("a slide for one: 3 to 0", x.oneMore(1, 0), 3);
    Ask.due("a slide for one: 3 to 0", x.oneMore(1, 1), 0);
    x.person(2, 2, 0);
    Ask.due("he stays", x.oneMore(2, 2), 60);
    x.person(2, 0, 0);
    Ask.due("1000 for one", x.oneMore(2, 2), 1060);
    Ask.due("0 to 3 still", x.oneMore(2, 0), 0);
    Ask.due("0 to 3 still", x.oneMore(2, 1), 3);
    // it may be asked in the other direction, and between two STAIRS
    HillErrands y = row(4);
    HillErrands z = Ask.level(4);
    z.stair(0, 1, 0);
    z.stair(2, 3, 0);
    Ask.law(z, "c1(0=0)");
    z.person(3, 0, 0);
    z.person(2, 1, 0);
    Ask.due("3 to 0 and 2 to 1", z.oneMore(0, 2), 1 + 3);
    Ask.due("first", z.oneMore(0, 0), 0);
    Ask.due("second", z.oneMore(0, 1), 2);
    y.person(0, 3, 0);
    Ask.due("what is there already", y.oneMore(0, 2), 1);
    Ask.due("first", y.oneMore(0, 0), 0);
    Ask.due("second", y.oneMore(0, 1), 3);
    // it is asked, not built
    Ask.due("count(1)", y.count(1), 3);
    Ask.due("the way is as it was", y.way(0, 3, 0, -1), 3);
    // 1000 is no bound of what can be
    Ask.law(y, "c400(0=0)");
    Ask.due("400", y.oneMore(0, 2), 400);
    Ask.law(y, "n(s=3);c400(0=0)");
    Ask.due("the new one can't be: 1200", y.oneMore(0, 2), 1200);
    Ask.due("of like ones the first two", y.oneMore(0, 0), 0);
    Ask.due("of like ones the first two", y.oneMore(0, 1), 1);
    Ask.law(y, "c0(l>0);c9999(0=0)");
    Ask.due("dear, LOAD 0", y.oneMore(0, 2), 9999);
    Ask.law(y, "n(0=0)");
    Ask.due("none can be", y.oneMore(0, 2), 1000);
  }

  /** STAIRS ahead of the new one and behind it count as one goes them, and so does what is there without it. */
  private static void oneMoreJoins() {
    Ask.sentence("the COSTS of all PEOPLE from beginning to end");
    int[][] towns = {{0, 10, 20, 30, 40, 50}, {50, 40, 30, 20, 10, 0}};
    for (int t = 0; t < 2; t++) {
      for (int turned = 0; turned < 2; turned++) {
        HillErrands x = Ask.town(towns[t]);
        Ask.row(x, 0, 0, 1, 2);
        Ask.row(x, 0, 3, 4, 5);
        Ask.law(x, "n(s=4&!(f=2&g=3|f=3&g=2));cu+l*500(0=0)");
        x.person(5 * turned, 5 - 5 * turned, 0);
        Ask.due("between 2 and 3 alone", x.oneMore(0, 2), t == turned ? 50 : 0);
        Ask.due("first", x.oneMore(0, 0), 2);
        Ask.due("second", x.oneMore(0, 1), 3);
        Ask.law(x, "n(s=4&!(f=2&g=3));cu+l*500(0=0)");
        Ask.due("from 2 to 3 alone", x.oneMore(0, 2), turned == 1 ? 1000 : t == 0 ? 50 : 0);
        Ask.law(x, "n(s=4&!(f=3&g=2));cu+l*500(0=0)");
        Ask.due("from 3 to 2 alone", x.oneMore(0, 2), turned == 0 ? 1000 : t == 0 ? 0 : 50);
      }
    }
    for (int turned = 0; turned < 2; turned++) {
      HillErrands y = Ask.town(0, 10);
      y.stair(0, 1, 0);
      y.person(turned, 1 - turned, 0);
      Ask.law(y, "n(s=1);cu+l*3(0=0)");
      Ask.due("the new one can't be", y.oneMore(0, 2), 10 - 10 * turned);
      Ask.law(y, "c3(s=1);c9+l(0=0)");
      Ask.due("the new one", y.oneMore(0, 2), 3);
      Ask.law(y, "c20(s=1);c9-l(0=0)");
      Ask.due("the one that is there", y.oneMore(0, 2), 9);
      Ask.law(y, "c5+l*2(s=1);n(s=0)");
      Ask.due("the new one with LOAD 0", y.oneMore(0, 2), 5);
    }
  }

  private static void oneMoreOfLikeOnes() {
    Ask.sentence("of like ones the least first, then second PLACE (for SORTS 0, 2 the first below the second by number).");
    HillErrands x = Ask.town(5, 30, 10);
    for (int sort = 0; sort < 3; sort += 2) {
      Ask.due("no PEOPLE: COSTS", x.oneMore(sort, 2), 0);
      Ask.due("no PEOPLE: first", x.oneMore(sort, 0), 0);
      Ask.due("no PEOPLE: second", x.oneMore(sort, 1), 1);
    }
    x.person(2, 1, 0);
    for (int sort = 0; sort < 3; sort += 2) {
      Ask.due("2 to 1: COSTS", x.oneMore(sort, 2), 20);
      Ask.due("2 to 1: first", x.oneMore(sort, 0), 1);
      Ask.due("2 to 1: second", x.oneMore(sort, 1), 2);
    }
    HillErrands y = row(4);
    Ask.law(y, "c0(0=0)");
    y.person(3, 2, 0);
    Ask.due("all alike: first", y.oneMore(0, 0), 0);
    Ask.due("all alike: second", y.oneMore(0, 1), 1);
    HillErrands z = Ask.level(4);
    z.person(3, 2, 0);
    z.person(3, 1, 0);
    Ask.due("one of two", z.oneMore(0, 2), 1000);
    Ask.due("the least first", z.oneMore(0, 0), 1);
    Ask.due("its second", z.oneMore(0, 1), 3);
    HillErrands last = Ask.level(20);
    last.person(19, 18, 0);
    Ask.due("the last pair", last.oneMore(2, 2), 0);
    Ask.due("the last pair", last.oneMore(2, 0), 18);
    Ask.due("the last pair", last.oneMore(2, 1), 19);
    Ask.due("the last pair by a slide", last.oneMore(1, 0), 19);
    Ask.due("the last pair by a slide", last.oneMore(1, 1), 18);
  }

  private static void oneMoreSlides() {
    Ask.sentence("ONE MORE: a STAIR of a SORT between two PLACES (of a slide the first not lower)");
    HillErrands x = Ask.town(5, 30, 10);
    Ask.due("no PEOPLE: from 1, for 0 is lowest", x.oneMore(1, 0), 1);
    Ask.due("no PEOPLE: to 0", x.oneMore(1, 1), 0);
    x.person(0, 2, 0);
    Ask.due("not upward", x.oneMore(1, 2), 1000);
    x.person(2, 0, 0);
    Ask.due("downward", x.oneMore(1, 2), 1000);
    Ask.due("downward: first", x.oneMore(1, 0), 2);
    Ask.due("downward: second", x.oneMore(1, 1), 0);
    HillErrands y = Ask.town(5, 5);
    Ask.due("level: first", y.oneMore(1, 0), 0);
    Ask.due("level: second", y.oneMore(1, 1), 1);
    y.person(1, 0, 0);
    Ask.due("level: the other way round", y.oneMore(1, 2), 0);
    Ask.due("level: first", y.oneMore(1, 0), 1);
    Ask.due("level: second", y.oneMore(1, 1), 0);
    y.person(0, 1, 0);
    Ask.due("one alone", y.oneMore(1, 2), 1000);
    Ask.due("the least first", y.oneMore(1, 0), 0);
    Ask.due("a rope for both", y.oneMore(2, 2), 0);
    HillErrands z = Ask.town(5, 6);
    z.person(1, 0, 0);
    Ask.due("one step down", z.oneMore(1, 2), 0);
    HillErrands v = Ask.town(6, 5);
    v.person(1, 0, 0);
    Ask.due("one step up", v.oneMore(1, 2), 1000);
    Ask.due("one step up: 0 to 1 alone", v.oneMore(1, 0), 0);
  }

  private static void oneMoreLaw() {
    Ask.sentence("ONE MORE: a STAIR of a SORT");
    HillErrands x = Ask.town(0, 50);
    x.person(0, 1, 0);
    for (int sort = 0; sort < 3; sort += 2) {
      Ask.law(x, "c10*k+s+1(0=0)");
      Ask.due("its SORT, the number that is due", x.oneMore(sort, 2), 10 * sort + 1);
    }
    HillErrands down = Ask.town(0, 50);
    down.person(1, 0, 0);
    Ask.law(down, "c10*k+s+1(0=0)");
    for (int sort = 0; sort < 3; sort++) {
      Ask.due("its SORT back", down.oneMore(sort, 2), 10 * sort + 1);
    }
    Ask.law(x, "n(k=2);c7(w=0);c8(w=3)");
    Ask.due("a rope can't be", x.oneMore(2, 2), 1000);
    Ask.due("a stair can", x.oneMore(0, 2), 7);
    x.season(3);
    Ask.due("by SEASON", x.oneMore(0, 2), 8);
    Ask.law(x, "c100+f(g=1&u=50&d=0&h=0)");
    Ask.due("up", x.oneMore(0, 2), 100);
    x.person(1, 0, 0);
    Ask.law(x, "c100+f(g=1&u=50&d=0&h=0);c200+f(g=0&u=0&d=50&h=50)");
    Ask.due("and down", x.oneMore(0, 2), 301);
    Ask.law(x, "n(f=1);c100(0=0)");
    Ask.due("not from 1", x.oneMore(0, 2), 1100);
    for (int s = 0; s < 39; s++) {
      x.stair(0, 1, 0);
    }
    Ask.law(x, "c500-s(0=0)");
    Ask.due("the 40th", x.oneMore(0, 2), 2 * (500 - 39));
  }

  private static void oneMoreRefused() {
    Ask.sentence("-2: fewer than two PLACES, 40 STAIRS; NONE: no such ones.");
    for (int places = 0; places < 3; places++) {
      HillErrands x = Ask.level(places);
      for (int sort = -1; sort <= 3; sort++) {
        for (int what = -2; what <= 4; what++) {
          boolean known = sort >= 0 && sort <= 2 && what >= 0 && what <= 2;
          int due = !known ? -1 : places < 2 ? -2 : what == 1 ? 1 : 0;
          Ask.due("oneMore(" + sort + ", " + what + ") of " + places, x.oneMore(sort, what), due);
        }
      }
    }
    HillErrands y = Ask.level(2);
    for (int s = 0; s < 40; s++) {
      for (int sort = 0; sort < 3; sort++) {
        Ask.due("with " + s + " STAIRS", y.oneMore(sort, 1), 1);
      }
      y.stair(0, 1, s % 3);
    }
    for (int sort = 0; sort < 3; sort++) {
      for (int what = 0; what < 3; what++) {
        Ask.due("with 40 STAIRS", y.oneMore(sort, what), -2);
      }
      Ask.due("NONE ahead of -2", y.oneMore(sort, 3), -1);
      Ask.due("NONE ahead of -2", y.oneMore(sort, -1), -1);
    }
    Ask.due("NONE ahead of -2", y.oneMore(3, 0), -1);
    Ask.due("NONE ahead of -2", y.oneMore(-1, 0), -1);
    for (int far : Ask.extremes()) {
      Ask.due("SORT " + far, y.oneMore(far, 0), -1);
      Ask.due("what " + far, y.oneMore(0, far), -1);
    }
    Ask.due("40 are there", y.count(1), 40);
  }

  // ---- promise 23

  private static void meetBoth() {
    Ask.sentence("where it is least for both together to come there and go back (what 0)");
    HillErrands x = Ask.town(0, 10, 30, 60);
    Ask.row(x, 0, 0, 1, 2, 3);
    Ask.due("anywhere between: the lowest", x.meet(0, 3, 0), 0);
    Ask.due("what it costs", x.meet(0, 3, 10), 60);
    Ask.due("the other way round", x.meet(3, 0, 0), 0);
    Ask.due("the other way round", x.meet(3, 0, 10), 60);
    Ask.due("1 and 2", x.meet(2, 1, 0), 1);
    Ask.due("1 and 2", x.meet(2, 1, 10), 20);
    // a third PLACE, by there and back
    HillErrands y = Ask.level(4);
    y.stair(0, 3, 0);
    y.stair(1, 3, 0);
    y.stair(0, 1, 0);
    y.stair(0, 2, 0);
    y.stair(1, 2, 0);
    Ask.law(y, "c50(s=2);c9(g=2);c0(f=2);c4(0=0)");
    Ask.due("at 3: 4 and 4 each", y.meet(0, 1, 10), 16);
    Ask.due("at 3, or at one of them", y.meet(0, 1, 0), 0);
    Ask.law(y, "c50(s=2);c7(g=2);c0(f=2);c4(0=0)");
    Ask.due("at 2: 7 and 0 each", y.meet(0, 1, 10), 14);
    Ask.law(y, "c50(s=2);c7+l*9(g=2);c5(f=2);c2+l*9(0=0)");
    Ask.due("LOAD 0", y.meet(0, 1, 10), 8);
    Ask.sentence("of like ones the lowest PLACE.");
    HillErrands z = Ask.level(20);
    for (int p = 1; p < 20; p++) {
      z.stair(0, p, 0);
    }
    Ask.due("all alike", z.meet(18, 19, 0), 0);
    Ask.due("all alike", z.meet(18, 19, 1), 0);
    Ask.law(z, "c1(0=0)");
    Ask.due("0, 18 or 19", z.meet(18, 19, 0), 0);
    Ask.due("0 alone", z.meet(18, 19, 1), 0);
    Ask.due("one there, or both in the middle", z.meet(18, 19, 10), 4);
    Ask.due("one there, or both in the middle", z.meet(18, 19, 11), 2);
    z.stair(18, 19, 2);
    Ask.law(z, "c1(k=2);c2(0=0)");
    Ask.due("18 or 19", z.meet(19, 18, 0), 18);
    Ask.due("18 or 19", z.meet(19, 18, 1), 18);
    Ask.due("COST", z.meet(19, 18, 10), 2);
    Ask.due("COST", z.meet(19, 18, 11), 2);
  }

  private static void meetForTheOne() {
    Ask.sentence("or for the one for whom it is more (what 1);");
    HillErrands x = Ask.town(0, 10, 30, 60);
    Ask.row(x, 0, 0, 1, 2, 3);
    Ask.due("30 for each", x.meet(0, 3, 1), 2);
    Ask.due("30 for each", x.meet(0, 3, 11), 30);
    Ask.due("the other way round", x.meet(3, 0, 1), 2);
    Ask.due("the other way round", x.meet(3, 0, 11), 30);
    Ask.due("50 from 1: at 2 20 and 30", x.meet(1, 3, 1), 2);
    Ask.due("50 from 1: at 2 20 and 30", x.meet(1, 3, 11), 30);
    Ask.due("0 or 1", x.meet(0, 1, 1), 0);
    Ask.due("0 or 1", x.meet(0, 1, 11), 10);
    HillErrands y = row(4);
    Ask.due("1 or 2", y.meet(0, 3, 1), 1);
    Ask.due("1 or 2", y.meet(0, 3, 11), 4);
    Ask.due("together", y.meet(0, 3, 10), 6);
    Ask.due("in the middle", y.meet(1, 3, 1), 2);
    Ask.due("in the middle", y.meet(1, 3, 11), 2);
  }

  private static void meetNowhere() {
    Ask.sentence("what 0, 1, where; 10, 11 what it costs so; -2: nowhere; NONE: no such ones.");
    int[] whats = {0, 1, 10, 11};
    HillErrands x = Ask.town(30, 0, 30, 30);
    x.stair(0, 1, 1);
    x.stair(2, 1, 1);
    for (int what : whats) {
      Ask.due("both come to 1, but not back: what " + what, x.meet(0, 2, what), -2);
      Ask.due("one comes: what " + what, x.meet(0, 1, what), -2);
      Ask.due("no STAIR: what " + what, x.meet(0, 3, what), -2);
      Ask.due("no STAIR: what " + what, x.meet(3, 2, what), -2);
    }
    x.stair(1, 0, 0);
    for (int what : whats) {
      Ask.due("one of them back: what " + what, x.meet(0, 2, what), -2);
    }
    x.stair(2, 1, 2);
    int[] due = {0, 1, 60, 30};
    for (int i = 0; i < 4; i++) {
      Ask.due("both back: what " + whats[i], x.meet(0, 2, whats[i]), due[i]);
    }
    Ask.law(x, "n(0=0)");
    for (int what : whats) {
      Ask.due("forbidden: what " + what, x.meet(0, 2, what), -2);
    }
    Ask.law(x, "n(l>0)");
    Ask.due("not without LOAD", x.meet(0, 2, 10), 60);
  }

  private static void meetRefused() {
    Ask.sentence("MEET, what 0, 1, where; 10, 11 what it costs so; -2: nowhere; NONE: no such ones.");
    HillErrands x = Ask.level(3);
    x.stair(0, 1, 0);
    for (int what = -3; what < 40; what++) {
      boolean known = what == 0 || what == 1 || what == 10 || what == 11;
      Ask.due("what " + what, x.meet(0, 1, what), known ? 0 : -1);
      Ask.due("nowhere, what " + what, x.meet(0, 2, what), known ? -2 : -1);
      Ask.due("PLACE 3, what " + what, x.meet(3, 0, what), -1);
      Ask.due("PLACE 3, what " + what, x.meet(0, 3, what), -1);
      Ask.due("PLACE -1, what " + what, x.meet(-1, 0, what), -1);
      Ask.due("PLACE -1, what " + what, x.meet(0, -1, what), -1);
    }
    for (int far : Ask.extremes()) {
      Ask.due("PLACE " + far, x.meet(far, 0, 0), -1);
      Ask.due("PLACE " + far, x.meet(0, far, 0), -1);
      Ask.due("what " + far, x.meet(0, 1, far), -1);
    }
    Ask.due("no PLACES", new HillErrands().meet(0, 0, 0), -1);
  }
}
