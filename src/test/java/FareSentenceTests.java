import java.io.IOException;

/** The sentences about fares: promises 24 to 26. */
public final class FareSentenceTests {
  public static void main(String[] args) throws IOException {
    bounds();
    full();
    chains();
    joins();
    byThemselves();
    notTold();
    falseOnes();
    leftOut();
    allFalse();
    falseWhats();
    Ask.finish(args);
  }

  private static void bounds() {
    Ask.sentence("one pays so many steps (-200 to 200, below 0: downward)");
    HillErrands x = Ask.level(4);
    Ask.due("201", x.fare(0, 1, 201), -1);
    Ask.due("-201", x.fare(0, 1, -201), -1);
    for (int far : Ask.extremes()) {
      Ask.due("steps " + far, x.fare(0, 1, far), -1);
      Ask.due("from " + far, x.fare(far, 1, 0), -1);
      Ask.due("to " + far, x.fare(0, far, 0), -1);
    }
    Ask.due("none is told", x.count(8), 0);
    Ask.due("none tells", x.ends(0, 1), -1000);
    Ask.due("200", x.fare(0, 1, 200), 1);
    Ask.due("1 is higher", x.ends(0, 1), 200);
    Ask.due("-200", x.fare(2, 3, -200), 2);
    Ask.due("3 is lower", x.ends(2, 3), -200);
    Ask.due("2 is higher", x.ends(3, 2), 200);
    Ask.due("0", x.fare(1, 3, 0), 3);
    Ask.due("no step", x.ends(1, 3), 0);
    Ask.due("no step", x.ends(0, 2) - x.ends(0, 3), 200);

    Ask.sentence("A FARE: how many there are; NONE: no such ones, one PLACE twice, 30 are there.");
    for (int p = 0; p < 4; p++) {
      Ask.due("one PLACE twice", x.fare(p, p, 0), -1);
      Ask.due("one PLACE twice", x.fare(p, p, 5), -1);
    }
    Ask.due("PLACE 4", x.fare(4, 1, 0), -1);
    Ask.due("PLACE 4", x.fare(1, 4, 0), -1);
    Ask.due("PLACE -1", x.fare(-1, 1, 0), -1);
    Ask.due("PLACE -1", x.fare(1, -1, 0), -1);
    Ask.due("three still", x.count(8), 3);
    Ask.due("no PLACES", new HillErrands().fare(0, 1, 0), -1);
    Ask.due("one PLACE", Ask.level(1).fare(0, 1, 0), -1);
  }

  private static void full() {
    Ask.sentence("FARES (30 at most)");
    HillErrands x = Ask.level(20);
    for (int i = 0; i < 29; i++) {
      Ask.due("fare", x.fare(i % 19, i % 19 + 1, 1), i + 1);
      Ask.due("count(8)", x.count(8), i + 1);
    }
    Ask.due("the 30th", x.fare(0, 19, 0), 30);
    Ask.due("it is false", x.falseFares(0), 29);
    Ask.due("a 31st", x.fare(0, 1, 1), -1);
    Ask.due("a 31st, which would be false", x.fare(0, 1, 2), -1);
    Ask.due("a 31st, of no such PLACE", x.fare(20, 1, 2), -1);
    Ask.due("count(8)", x.count(8), 30);
    Ask.due("one is false", x.falseFares(-1), 1);
    Ask.due("from the first to the last", x.ends(0, 19), 19);
    HillErrands y = Ask.level(4);
    for (int i = 0; i < 30; i++) {
      y.fare(0, 1, 1);
    }
    Ask.due("a 31st", y.fare(2, 3, 5), -1);
    Ask.due("it tells nothing", y.ends(2, 3), -1000);
  }

  private static void chains() {
    Ask.sentence("ENDS: how much higher b is than a by FARES");
    HillErrands x = Ask.level(5);
    x.fare(0, 1, 10);
    x.fare(1, 2, 20);
    x.fare(2, 3, -70);
    x.fare(3, 4, 5);
    int[] heights = {0, 10, 30, -40, -35};
    for (int a = 0; a < 5; a++) {
      for (int b = 0; b < 5; b++) {
        if (a != b) {
          Ask.due("ends(" + a + ", " + b + ")", x.ends(a, b), heights[b] - heights[a]);
        }
      }
    }
    // told from both sides to the middle
    HillErrands y = Ask.level(3);
    y.fare(0, 2, 7);
    y.fare(1, 2, 4);
    Ask.due("7 - 4", y.ends(0, 1), 3);
    Ask.due("4 - 7", y.ends(1, 0), -3);
    HillErrands z = Ask.level(3);
    z.fare(2, 0, 7);
    z.fare(2, 1, 4);
    Ask.due("4 - 7", z.ends(0, 1), -3);
  }

  private static void joins() {
    Ask.sentence("HEIGHTS apart as FARES tell");
    // two and two, then joined at each of the four pairs, in both directions
    for (int a = 0; a < 2; a++) {
      for (int b = 2; b < 4; b++) {
        for (int turned = 0; turned < 2; turned++) {
          HillErrands x = Ask.level(4);
          x.fare(0, 1, 11);
          x.fare(2, 3, -13);
          for (int p = 0; p < 2; p++) {
            for (int q = 2; q < 4; q++) {
              Ask.due("not joined", x.ends(p, q), -1000);
            }
          }
          x.fare(turned == 0 ? a : b, turned == 0 ? b : a, turned == 0 ? 100 : -100);
          for (int p = 0; p < 2; p++) {
            for (int q = 2; q < 4; q++) {
              int due = 11 * (a - p) + 100 - 13 * (q - b);
              Ask.due("joined at " + a + " and " + b, x.ends(p, q), due);
              Ask.due("joined at " + a + " and " + b, x.ends(q, p), -due);
            }
          }
          Ask.due("as before", x.ends(0, 1), 11);
          Ask.due("as before", x.ends(2, 3), -13);
          Ask.due("none is false", x.falseFares(-1), 0);
        }
      }
    }
  }

  private static void byThemselves() {
    Ask.sentence("(by themselves, not by what is told else)");
    HillErrands x = Ask.town(0, 10, 30);
    Ask.row(x, 0, 0, 1, 2);
    Ask.due("HEIGHTS do not tell", x.ends(0, 1), -1000);
    x.fare(0, 1, 77);
    Ask.due("not as the HEIGHTS are", x.ends(0, 1), 77);
    Ask.due("nor false for that", x.falseFares(-1), 0);
    Ask.due("HEIGHTS do not tell", x.ends(1, 2), -1000);
    Ask.due("HEIGHTS stay", x.count(21), 10);
    Ask.due("ways stay", x.way(0, 1, 0, -1), 10);
    x.fare(0, 1, 10);
    Ask.due("false, though the HEIGHTS are so", x.falseFares(0), 1);
  }

  private static void notTold() {
    Ask.sentence("-1000: they do not tell, no such ones.");
    HillErrands x = Ask.level(4);
    Ask.due("none is told", x.ends(0, 1), -1000);
    x.fare(0, 1, 5);
    Ask.due("not to 2", x.ends(0, 2), -1000);
    Ask.due("not from 2", x.ends(2, 1), -1000);
    Ask.due("nor between others", x.ends(2, 3), -1000);
    Ask.due("PLACE 4", x.ends(4, 0), -1000);
    Ask.due("PLACE 4", x.ends(0, 4), -1000);
    Ask.due("PLACE -1", x.ends(-1, 0), -1000);
    Ask.due("PLACE -1", x.ends(0, -1), -1000);
    for (int far : Ask.extremes()) {
      Ask.due("PLACE " + far, x.ends(far, 0), -1000);
      Ask.due("PLACE " + far, x.ends(0, far), -1000);
    }
    Ask.due("no PLACES", new HillErrands().ends(0, 1), -1000);
  }

  private static void falseOnes() {
    Ask.sentence("FALSE is the first FARE that can't be with all ahead of it");
    HillErrands x = Ask.level(3);
    x.fare(0, 1, 10);
    Ask.due("the same again", x.fare(0, 1, 10), 2);
    Ask.due("the same turned round", x.fare(1, 0, -10), 3);
    Ask.due("none is false", x.falseFares(-1), 0);
    x.fare(0, 1, 11);
    Ask.due("one more", x.falseFares(0), 3);
    x.fare(0, 1, 9);
    Ask.due("one less", x.falseFares(1), 4);
    x.fare(1, 0, 10);
    Ask.due("up both ways", x.falseFares(2), 5);
    x.fare(0, 1, -10);
    Ask.due("down", x.falseFares(3), 6);
    x.fare(1, 2, 5);
    x.fare(0, 2, 15);
    Ask.due("round about, right", x.falseFares(-1), 4);
    x.fare(2, 0, 15);
    Ask.due("round about, turned", x.falseFares(4), 9);
    x.fare(2, 0, -16);
    Ask.due("round about, one more", x.falseFares(5), 10);
    Ask.due("all are told", x.count(8), 11);
    Ask.due("six are false", x.falseFares(-1), 6);
    Ask.due("0 and 1", x.ends(0, 1), 10);
    Ask.due("0 and 2", x.ends(0, 2), 15);
  }

  private static void leftOut() {
    Ask.sentence("(false ones are left out)");
    HillErrands x = Ask.level(4);
    x.fare(0, 1, 10);
    x.fare(0, 1, 20);
    Ask.due("false", x.falseFares(0), 1);
    Ask.due("as told first", x.ends(0, 1), 10);
    x.fare(0, 1, 20);
    Ask.due("the false one again is false again", x.falseFares(1), 2);
    x.fare(0, 1, 10);
    Ask.due("the first one again is right", x.falseFares(-1), 2);
    x.fare(1, 2, 10);
    Ask.due("as told first", x.ends(0, 2), 20);
    x.fare(0, 2, 30);
    Ask.due("by the false ones it would be right", x.falseFares(2), 5);
    x.fare(0, 2, 20);
    Ask.due("right", x.falseFares(-1), 3);
    x.fare(2, 3, -20);
    Ask.due("by right ones alone", x.ends(0, 3), 0);
    Ask.due("by right ones alone", x.ends(3, 1), 10);
  }

  private static void allFalse() {
    Ask.sentence("FALSE: how many FARES are (what NONE), else the what-th of them (from 0); NONE also: no such one.");
    HillErrands x = Ask.level(2);
    x.fare(0, 1, 0);
    for (int i = 1; i < 30; i++) {
      x.fare(0, 1, i);
      Ask.due("how many", x.falseFares(-1), i);
      Ask.due("the last one", x.falseFares(i - 1), i);
      Ask.due("no more", x.falseFares(i), -1);
    }
    for (int i = 0; i < 29; i++) {
      Ask.due("the " + i + "-th", x.falseFares(i), i + 1);
    }
    Ask.due("no more", x.falseFares(29), -1);
    Ask.due("no more", x.falseFares(30), -1);
    x.fare(0, 1, 5);
    Ask.due("one that is refused is not false", x.falseFares(-1), 29);
  }

  private static void falseWhats() {
    Ask.sentence("NONE also: no such one.");
    HillErrands x = Ask.level(2);
    for (int told = 0; told < 3; told++) {
      int falseOnes = told < 2 ? 0 : 1;
      Ask.due("how many", x.falseFares(-1), falseOnes);
      Ask.due("what 0", x.falseFares(0), falseOnes == 0 ? -1 : 1);
      Ask.due("what 1", x.falseFares(1), -1);
      Ask.due("what -2", x.falseFares(-2), -1);
      for (int far : Ask.extremes()) {
        Ask.due("what " + far, x.falseFares(far), -1);
      }
      x.fare(0, 1, told);
    }
  }
}
