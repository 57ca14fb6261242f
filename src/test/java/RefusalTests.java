import java.io.IOException;
import java.util.ArrayList;
import java.util.List;
import java.util.function.ToIntFunction;

/**
 * What a refused call answers, also where several refusals are due, and that it leaves all as it was: each one
 * is asked of a town of its own, whose answers are then held against those of a town that was not asked.
 */
public final class RefusalTests {
  private static final int[] ODD = {-1, 4, 20, 1000, Integer.MIN_VALUE, Integer.MAX_VALUE};

  private static List<Integer> untouched;
  private static List<Integer> untouchedFull;

  public static void main(String[] args) throws IOException {
    untouched = portrait(told());
    untouchedFull = portrait(full());
    portraitSeesAll();
    refusedTelling();
    refusedFull();
    refusedLaw();
    refusedWays();
    refusedErrands();
    refusedFolk();
    refusedShops();
    refusedFares();
    askingChangesNothing();
    tapeFalls();
    Ask.finish(args);
  }

  // ---- towns and their portraits

  /** Four places, and some of all that can be told; the tape holds a law. */
  private static HillErrands told() {
    HillErrands x = Ask.town(0, 10, 30, 5);
    Ask.row(x, 0, 0, 1, 2);
    x.stair(2, 0, 1);
    x.season(1);
    Ask.law(x, "cu+l(k=0);c3+w(k=1)");
    x.keep();
    x.stair(0, 2, 2);
    x.season(2);
    x.errand(0, 1, 5, 10);
    x.errand(1, 2, 2, 20);
    x.errand(2, 3, 1, 30);
    x.person(0, 2, 20);
    x.person(1, 0, 5);
    x.thing(0, 1, 2, 4);
    x.thing(3, 3, 0, 1);
    x.wants(1, 7);
    x.wants(2, 30);
    x.fare(0, 1, 5);
    x.fare(0, 1, 6);
    x.fare(1, 2, 9);
    x.seed(77);
    Ask.tape(x, Ask.bytes("c5+l(k=2);n(l=9);c8+s(0=0)"));
    return x;
  }

  /** As much as can be told; the tape holds 200 bytes. */
  private static HillErrands full() {
    HillErrands x = new HillErrands();
    for (int p = 0; p < 20; p++) {
      x.place(10 * (p % 7));
    }
    for (int s = 0; s < 20; s++) {
      x.stair(s, (s + 1) % 20, 0);
    }
    x.keep();
    for (int s = 20; s < 40; s++) {
      x.stair(s - 20, (s - 15) % 20, 2);
    }
    for (int i = 0; i < 8; i++) {
      x.errand(i, 2 * i, i, i);
      x.person(i, 19 - i, 10 * i);
      x.thing(i, 2 * i, 19 - i, i);
      x.wants(2 * i, 9 * i);
    }
    for (int f = 0; f < 30; f++) {
      x.fare(f % 20, (f + 1) % 20, f % 20 == 19 ? -19 : 1);
    }
    Ask.tape(x, Ask.bytes("c5+l(k=2);n(l=9);c8+s(0=0)".repeat(7)));
    x.feed(0, 0, 0, 0, 0);
    return x;
  }

  /** What a town answers, at last what empties its tape, moves X and goes back to what was kept. */
  private static List<Integer> portrait(HillErrands x) {
    List<Integer> all = new ArrayList<>();
    for (int what = 0; what < 60; what++) {
      all.add(x.count(what));
    }
    for (int s = 0; s < 5; s++) {
      all.add(x.going(s, false, 3));
      all.add(x.going(s, true, 0));
    }
    for (int a = 0; a < 4; a++) {
      for (int b = 0; b < 4; b++) {
        all.add(x.way(a, b, 0, -1));
        all.add(x.ends(a, b));
      }
      all.add(x.day(a, 99999, 0));
      all.add(x.day(a, 99999, 1));
      all.add(x.day(a, 99999, 2));
      all.add(x.water(a, 0));
      all.add(x.water(a, 2));
      all.add(x.shops(1 << a));
      all.add(x.falseFares(a - 1));
      all.add(x.meet(a, 0, 10));
    }
    for (int i = 0; i < 4; i++) {
      all.add(x.best(3, 1 << i, -1));
      all.add(x.best(1, 1 << i, 10));
      all.add(x.brought(0, i));
      all.add(x.brought(1, i));
    }
    all.add(x.oneMore(0, 2));
    all.add(x.oneMore(2, 0));
    all.add(x.draw(1, 9, 0));
    all.add(x.count(9));
    Ask.due("the tape is a law", x.law(26), 3);
    all.add(x.count(2));
    for (int s = 0; s < 5; s++) {
      all.add(x.going(s, false, 3));
      all.add(x.going(s, false, 9));
    }
    all.add(x.undo() ? 1 : 0);
    all.add(x.count(1));
    all.add(x.count(4));
    all.add(x.way(0, 2, 1, -1));
    return all;
  }

  private static void refused(String call, ToIntFunction<HillErrands> asking, int due) {
    HillErrands x = told();
    Ask.due(call, asking.applyAsInt(x), due);
    Ask.due("all is as it was behind " + call, portrait(x).equals(untouched), true);
  }

  private static void refusedByFull(String call, ToIntFunction<HillErrands> asking, int due) {
    HillErrands x = full();
    Ask.due(call, asking.applyAsInt(x), due);
    Ask.due("all is as it was behind " + call, portrait(x).equals(untouchedFull), true);
  }

  private static int so(boolean answer) {
    return answer ? 1 : 0;
  }

  /** Each call that is not refused is seen in the portrait, or the portrait would show nothing. */
  private static void portraitSeesAll() {
    Ask.sentence("A call that is refused (NONE, false) changes nothing but the tape, where it is told.");
    List<ToIntFunction<HillErrands>> calls = List.of(x -> x.place(0), x -> x.stair(0, 1, 0), x -> so(x.season(0)),
        x -> x.feed(0, 0, 0, 0, 0), x -> so(x.errand(0, 0, 5, 10)), x -> so(x.errand(0, 1, 6, 10)), x -> x.person(0, 0, 0),
        x -> so(x.thing(0, 1, 2, 5)), x -> so(x.wants(1, 8)), x -> x.fare(0, 1, 5), x -> so(x.seed(78)), x -> x.draw(0, 1, 0),
        x -> x.keep(), x -> so(x.undo()), x -> so(x.errand(0, 1, 5, 100)));
    for (int i = 0; i < calls.size(); i++) {
      HillErrands x = told();
      calls.get(i).applyAsInt(x);
      Ask.due("call " + i + " is seen", portrait(x).equals(untouched), false);
    }
    Ask.due("two that were told alike are alike", portrait(told()).equals(untouched), true);
    Ask.due("a call that tells the same again", same(), true);
  }

  private static boolean same() {
    HillErrands x = told();
    x.season(2);
    x.errand(1, 2, 2, 20);
    x.thing(3, 3, 0, 1);
    x.wants(2, 30);
    x.seed(77);
    return portrait(x).equals(untouched);
  }

  // ---- refusals

  private static void refusedTelling() {
    Ask.sentence("A call that is refused (NONE, false) changes nothing but the tape, where it is told.");
    for (int odd : ODD) {
      refused("stair(" + odd + ", 1, 0)", x -> x.stair(odd, 1, 0), -1);
      refused("stair(1, " + odd + ", 0)", x -> x.stair(1, odd, 0), -1);
      refused("stair(1, 0, " + odd + ")", x -> x.stair(1, 0, odd), -1);
      refused("season(" + odd + ")", x -> so(x.season(odd)), 0);
    }
    for (int odd : new int[] {-1, 201, Integer.MIN_VALUE, Integer.MAX_VALUE}) {
      refused("place(" + odd + ")", x -> x.place(odd), -1);
    }
    for (int odd : new int[] {-1, 65536, Integer.MIN_VALUE, Integer.MAX_VALUE}) {
      refused("seed(" + odd + ")", x -> so(x.seed(odd)), 0);
    }
    refused("one PLACE twice", x -> x.stair(1, 1, 0), -1);
    refused("a slide upward", x -> x.stair(0, 1, 1), -1);
    HillErrands bare = Ask.town(0, 10);
    bare.stair(0, 1, 0);
    bare.season(3);
    Ask.due("undo()", bare.undo(), false);
    Ask.due("STAIRS", bare.count(1), 1);
    Ask.due("SEASON", bare.count(4), 3);
  }

  private static void refusedFull() {
    Ask.sentence("A call that is refused (NONE, false) changes nothing but the tape, where it is told.");
    refusedByFull("a 21st PLACE", x -> x.place(7), -1);
    refusedByFull("a 21st PLACE of no HEIGHT", x -> x.place(201), -1);
    refusedByFull("a 41st STAIR", x -> x.stair(0, 1, 0), -1);
    refusedByFull("a 41st STAIR, a slide upward", x -> x.stair(0, 1, 1), -1);
    refusedByFull("a 201st byte", x -> x.feed(1, 2, 3, 4, 5), -1);
    refusedByFull("a 9th PERSON", x -> x.person(0, 1, 1), -1);
    refusedByFull("a 31st FARE", x -> x.fare(0, 1, 1), -1);
    refusedByFull("a 31st FARE, which would be false", x -> x.fare(0, 1, 100), -1);
    refusedByFull("one STAIR more of 40", x -> x.oneMore(0, 0), -2);
    refusedByFull("law(161)", x -> x.law(161), -1);
    refusedByFull("law(0)", x -> x.law(0), -1);
    refusedByFull("check of 51 numbers", x -> x.check(0, 51), -2);
    refusedByFull("errand(8, ..)", x -> so(x.errand(8, 0, 0, 0)), 0);
    refusedByFull("thing(8, ..)", x -> so(x.thing(8, 0, 0, 0)), 0);
    refusedByFull("wants(20, ..)", x -> so(x.wants(20, 0)), 0);
    refusedByFull("round(20, ..)", x -> x.round(20, 1), -1);
  }

  private static void refusedLaw() {
    Ask.sentence("NONE: no such n, it has not so many (the tape stays).");
    for (int n : new int[] {0, -1, 41, 160, 161, Integer.MIN_VALUE, Integer.MAX_VALUE}) {
      refused("law(" + n + ")", x -> x.law(n), -1);
    }
    Ask.sentence("-2: no such one, it has not so many (the tape stays).");
    for (int odd : ODD) {
      refused("check(" + odd + ", 3)", x -> x.check(odd, 3), -2);
    }
    for (int n : new int[] {11, -1, 40, Integer.MIN_VALUE, Integer.MAX_VALUE}) {
      refused("check(0, " + n + ")", x -> x.check(0, n), -2);
    }
    Ask.sentence("NONE: no such ones, it has not so many (the tape stays).");
    for (int odd : ODD) {
      refused("round(" + odd + ", 1)", x -> x.round(odd, 1), -1);
    }
    for (int n : new int[] {0, -1, 9, 40, 41, Integer.MIN_VALUE, Integer.MAX_VALUE}) {
      refused("round(0, " + n + ")", x -> x.round(0, n), -1);
    }
  }

  private static void refusedWays() {
    Ask.sentence("Where several of these fit one call NONE (or what is told in its place) is told first, then a FAULT, then -2, then -3 and so on");
    for (int odd : ODD) {
      refused("way(" + odd + ", 3, 0, -1)", x -> x.way(odd, 3, 0, -1), -1);
      refused("way(3, " + odd + ", 0, -1)", x -> x.way(3, odd, 0, -1), -1);
      refused("meet(" + odd + ", 3, 0)", x -> x.meet(odd, 3, 0), -1);
      refused("meet(3, " + odd + ", 0)", x -> x.meet(3, odd, 0), -1);
      refused("meet(0, 3, " + (odd == -1 ? 2 : odd) + ")", x -> x.meet(0, 3, odd == -1 ? 2 : odd), -1);
    }
    for (int load : new int[] {-1, 100, Integer.MIN_VALUE, Integer.MAX_VALUE}) {
      refused("way(0, 3, " + load + ", -1)", x -> x.way(0, 3, load, -1), -1);
      refused("going(2, true, " + load + ")", x -> x.going(2, true, load), -1);
    }
    for (int s : new int[] {-1, 4, 40, Integer.MIN_VALUE, Integer.MAX_VALUE}) {
      refused("going(" + s + ", true, 0)", x -> x.going(s, true, 0), -1);
    }
    for (int what : new int[] {-2, 21, Integer.MIN_VALUE, Integer.MAX_VALUE}) {
      refused("way(0, 3, 0, " + what + ")", x -> x.way(0, 3, 0, what), -1);
    }
    Ask.sentence("in way() NONE of a place that is not there behind -2.");
    refused("way(0, 3, 0, 19)", x -> x.way(0, 3, 0, 19), -2);
    refused("way(0, 2, 0, 19)", x -> x.way(0, 2, 0, 19), -1);
    refused("a slide back", x -> x.going(2, true, 0), -2);
    refused("meet(0, 3, 0)", x -> x.meet(0, 3, 0), -2);
  }

  private static void refusedErrands() {
    Ask.sentence("A call that is refused (NONE, false) changes nothing but the tape, where it is told.");
    for (int odd : ODD) {
      int number = odd == 4 ? 8 : odd;
      refused("errand(" + number + ", ..)", x -> so(x.errand(number, 0, 0, 0)), 0);
      refused("errand(0, " + odd + ", ..)", x -> so(x.errand(0, odd, 0, 0)), 0);
      int weight = odd == 4 ? 13 : odd;
      refused("errand(0, 0, " + weight + ", ..)", x -> so(x.errand(0, 0, weight, 0)), 0);
      int worth = odd == 4 || odd == 20 ? 1001 : odd;
      refused("errand(0, 0, 0, " + worth + ")", x -> so(x.errand(0, 0, 0, worth)), 0);
      refused("best(" + odd + ", 4, 0)", x -> x.best(odd, 4, 0), -1);
      refused("day(" + odd + ", 9, 0)", x -> x.day(odd, 9, 0), -1);
      refused("day(0, 9, " + odd + ")", x -> x.day(0, 9, odd), -1);
      refused("draw(" + odd + ", 9, 0)", x -> x.draw(odd, 9, 0), -1);
      refused("draw(0, 9, " + odd + ")", x -> x.draw(0, 9, odd), -1);
      int errands = odd == 4 ? 12 : odd;
      refused("best(0, " + errands + ", 0)", x -> x.best(0, errands, 0), -1);
    }
    refused("best(0, 0, -1)", x -> x.best(0, 0, -1), -1);
    refused("NONE ahead of -2", x -> x.best(0, 4, 1), -1);
    refused("a way is not there", x -> x.best(0, 4, 0), -2);
    for (int n : new int[] {0, -1, 21, Integer.MIN_VALUE, Integer.MAX_VALUE}) {
      refused("draw(0, " + n + ", 0)", x -> x.draw(0, n, 0), -1);
    }
    for (int steps : new int[] {-1, 100000, Integer.MIN_VALUE, Integer.MAX_VALUE}) {
      refused("day(0, " + steps + ", 0)", x -> x.day(0, steps, 0), -1);
    }
  }

  private static void refusedFolk() {
    Ask.sentence("Where several of these fit one call NONE (or what is told in its place) is told first");
    for (int odd : ODD) {
      refused("person(" + odd + ", ..)", x -> x.person(odd, 0, 0), -1);
      refused("person(0, " + odd + ", 0)", x -> x.person(0, odd, 0), -1);
      refused("thing(0, " + odd + ", ..)", x -> so(x.thing(0, odd, 0, 0)), 0);
      refused("thing(0, 0, " + odd + ", 0)", x -> so(x.thing(0, 0, odd, 0)), 0);
      refused("wants(" + odd + ", 0)", x -> so(x.wants(odd, 0)), 0);
      refused("brought(" + odd + ", 3)", x -> x.brought(odd, 3), -2000000);
      refused("brought(0, " + odd + ")", x -> x.brought(0, odd), -2000000);
      refused("water(" + odd + ", 0)", x -> x.water(odd, 0), -1);
      refused("water(0, " + odd + ")", x -> x.water(0, odd), -1);
      int number = odd == 4 ? 8 : odd;
      refused("thing(" + number + ", ..)", x -> so(x.thing(number, 0, 0, 0)), 0);
      int far = odd == 4 || odd == 20 ? 100 : odd;
      refused("person(0, 0, " + far + ")", x -> x.person(0, 0, far), -1);
      refused("thing(0, 0, 0, " + far + ")", x -> so(x.thing(0, 0, 0, far)), 0);
      refused("wants(0, " + far + ")", x -> so(x.wants(0, far)), 0);
      int things = odd == 4 ? 5 : odd;
      refused("sent(" + things + ", 0)", x -> x.sent(things, 0), -1);
      int what = odd == -1 ? -2 : odd == 4 ? 8 : odd;
      refused("sent(1, " + what + ")", x -> x.sent(1, what), -1);
    }
    refused("sent(0, -1)", x -> x.sent(0, -1), -1);
    refused("sent(1, 3)", x -> x.sent(1, 3), -2);
    Ask.sentence("in brought() -2000000 ahead of -1000000;");
    refused("brought(2, 3)", x -> x.brought(2, 3), -2000000);
    refused("brought(0, 3)", x -> x.brought(0, 3), -1000000);
  }

  private static void refusedShops() {
    Ask.sentence("A call that is refused (NONE, false) changes nothing but the tape, where it is told.");
    for (int places : new int[] {0, 15, 16, 17, -1, Integer.MIN_VALUE, Integer.MAX_VALUE}) {
      refused("shops(" + places + ")", x -> x.shops(places), -1);
    }
    for (int odd : ODD) {
      refused("shop(" + odd + ", -1)", x -> x.shop(odd, -1), -1);
      int what = odd == -1 ? -2 : odd;
      refused("shop(3, " + what + ")", x -> x.shop(3, what), -1);
      int spots = odd == 20 ? 400 : odd;
      refused("themselves(" + spots + ", 2, 0)", x -> x.themselves(spots, 2, 0), -1);
      refused("themselves(0, " + odd + ", 0)", x -> x.themselves(0, odd, 0), -1);
      int known = odd == 20 ? 19 : odd;
      refused("themselves(0, 3, " + known + ")", x -> x.themselves(0, 3, known), -1);
      refused("oneMore(" + odd + ", 0)", x -> x.oneMore(odd, 0), -1);
      refused("oneMore(0, " + odd + ")", x -> x.oneMore(0, odd), -1);
    }
  }

  private static void refusedFares() {
    Ask.sentence("A call that is refused (NONE, false) changes nothing but the tape, where it is told.");
    for (int odd : ODD) {
      refused("fare(" + odd + ", 1, 0)", x -> x.fare(odd, 1, 0), -1);
      refused("fare(1, " + odd + ", 0)", x -> x.fare(1, odd, 0), -1);
      refused("ends(" + odd + ", 1)", x -> x.ends(odd, 1), -1000);
      refused("ends(1, " + odd + ")", x -> x.ends(1, odd), -1000);
    }
    for (int steps : new int[] {-201, 201, Integer.MIN_VALUE, Integer.MAX_VALUE}) {
      refused("fare(0, 3, " + steps + ")", x -> x.fare(0, 3, steps), -1);
    }
    refused("fare(3, 3, 0)", x -> x.fare(3, 3, 0), -1);
    for (int what : new int[] {1, 30, -2, Integer.MIN_VALUE, Integer.MAX_VALUE}) {
      refused("falseFares(" + what + ")", x -> x.falseFares(what), -1);
    }
    for (int what : new int[] {-1, 10, 19, 24, 39, 44, 59, 60, Integer.MIN_VALUE, Integer.MAX_VALUE}) {
      refused("count(" + what + ")", x -> x.count(what), -1);
    }
  }

  /** What is only asked, and answered, leaves all as it was, too. */
  private static void askingChangesNothing() {
    Ask.sentence("Nothing is promised beyond the answers and state changes described above");
    HillErrands x = told();
    x.way(0, 2, 99, 1);
    x.best(0, 3, 1);
    x.best(0, 3, 10);
    x.day(0, 99999, 1);
    x.brought(1, 0);
    x.sent(9, 10);
    x.water(0, 2);
    x.shops(7);
    x.shop(3, 2);
    x.themselves(1 + 20 + 400, 3, 20);
    x.oneMore(1, 0);
    x.oneMore(2, 2);
    x.meet(0, 1, 11);
    x.ends(0, 2);
    x.falseFares(0);
    x.count(9);
    x.going(0, true, 99);
    Ask.due("all is as it was", portrait(x).equals(untouched), true);
  }

  /** What empties the tape although it does not answer what was asked. */
  private static void tapeFalls() {
    Ask.sentence("-2: a way is not there; -3: no such ERRANDS, one twice; NONE: no such ones, it has not so many (the tape stays).");
    int[][] orders = {{0, 0}, {7}, {255}, {2}, {0, 2}};
    int[] due = {-3, -3, -3, -2, -2};
    for (int i = 0; i < orders.length; i++) {
      HillErrands x = told();
      x.law(26);
      Ask.due("the order " + i, Ask.round(x, 0, orders[i]), due[i]);
      Ask.due("the tape is empty", x.count(3), 0);
      HillErrands y = told();
      y.law(26);
      Ask.tape(x, Ask.bytes("c5+l(k=2);n(l=9);c8+s(0=0)"));
      Ask.tape(y, Ask.bytes("c5+l(k=2);n(l=9);c8+s(0=0)"));
      Ask.due("all else is as it was", portrait(x).equals(portrait(y)), true);
    }
    Ask.sentence("a FAULT: -1000 times its number, less its place (the TEXT before stays)");
    HillErrands x = told();
    Ask.due("a fault behind a right CLAUSE", x.law(15), -1015);
    Ask.due("the tape is empty", x.count(3), 0);
    Ask.tape(x, Ask.bytes("c5+l(k=2);n(l=9);c8+s(0=0)"));
    Ask.due("all else is as it was", portrait(x).equals(untouched), true);
    Ask.sentence("NONE: right; else the place of the first number that is not so (n: some are lacking)");
    HillErrands y = told();
    Ask.due("a number that is not so", y.check(0, 1), 0);
    Ask.due("the tape is empty", y.count(3), 0);
    Ask.tape(y, Ask.bytes("c5+l(k=2);n(l=9);c8+s(0=0)"));
    Ask.due("all else is as it was", portrait(y).equals(untouched), true);
  }
}
