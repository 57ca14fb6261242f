import java.util.ArrayDeque;
import java.util.ArrayList;
import java.util.Arrays;
import java.util.HashMap;
import java.util.List;
import java.util.Map;

/**
 * Random runs of calls, each answered by HillErrands and by a second, slow program that goes through
 * all ways, orders, sets and rows one by one. The runs are the same each time.
 */
public final class OracleTests {
  public static void main(String[] args) {
    int runs = Integer.getInteger("runs", 4000);
    long asked = 0;
    Map<String, Integer> kinds = new HashMap<>();
    for (int run = Integer.getInteger("first", 0); run < runs; run++) {
      Runner runner = new Runner(run, kinds);
      String wrong = runner.go();
      asked += runner.calls;
      if (wrong != null) {
        System.out.println("run " + run + ":\n" + wrong);
        System.exit(1);
      }
    }
    if (Boolean.getBoolean("kinds")) {
      kinds.entrySet().stream().sorted(Map.Entry.comparingByKey())
          .forEach(e -> System.out.println(e.getKey() + " " + e.getValue()));
    }
    System.out.println(asked + " calls of " + runs + " runs are answered alike");
  }

  /** A small generator of numbers, so that the runs are the same on each machine. */
  static final class Dice {
    private long state;

    Dice(long seed) {
      state = seed * 0x9E3779B97F4A7C15L + 12345;
    }

    int below(int n) {
      state = state * 6364136223846793005L + 1442695040888963407L;
      return (int) ((state >>> 33) % n);
    }

    boolean oneIn(int n) {
      return below(n) == 0;
    }

    int between(int low, int high) {
      return low + below(high - low + 1);
    }

    char of(String signs) {
      return signs.charAt(below(signs.length()));
    }
  }

  /** Texts of laws, right ones and spoilt ones. */
  static final class LawMaker {
    private final Dice dice;

    LawMaker(Dice dice) {
      this.dice = dice;
    }

    String text() {
      int clauses = dice.oneIn(12) ? dice.between(10, 14) : dice.between(1, 4);
      if (dice.oneIn(12)) {
        return bracketed();
      }
      StringBuilder text = new StringBuilder();
      for (int c = 0; c < clauses; c++) {
        if (c > 0) {
          text.append(';');
        }
        boolean small = clauses > 6;
        int deep = small ? 0 : dice.oneIn(6) ? dice.between(4, 9) : 2;
        if (dice.oneIn(3)) {
          text.append("n(").append(small ? comparison(0) : condition(deep)).append(')');
        } else {
          text.append('c').append(sum(small ? 0 : deep)).append('(');
          text.append(small ? "0=0" : condition(deep)).append(')');
        }
      }
      if (dice.oneIn(6)) {
        spoil(text);
      }
      return text.toString();
    }

    /** A piece with so many brackets that one or another opens too deep. */
    private String bracketed() {
      StringBuilder text = new StringBuilder(dice.oneIn(2) ? "n(" : "c1(");
      StringBuilder end = new StringBuilder(")");
      int n = dice.between(3, 7);
      for (int i = 0; i < n; i++) {
        if (dice.oneIn(2)) {
          text.append('!');
        } else {
          text.append(dice.oneIn(2) ? "1=1&(" : "(");
          end.append(dice.oneIn(2) ? ")" : "|1=2)");
        }
      }
      text.append(dice.oneIn(2) ? "[u]=0" : "0=[[u]]");
      return text.append(end.reverse().toString().replace(")2=1|", "|1=2)")).toString();
    }

    private void spoil(StringBuilder text) {
      int at = dice.below(text.length());
      char sign = dice.of("nc()[]!&|<>=+-*/%;udklwfgsh0123456789x \u0000\u00ff");
      switch (dice.below(4)) {
        case 0: text.setCharAt(at, sign); break;
        case 1: text.insert(at, sign); break;
        case 2: text.deleteCharAt(at); break;
        default: text.setLength(at + (at == 0 ? 1 : 0));
      }
    }

    private String condition(int deep) {
      StringBuilder text = new StringBuilder(part(deep));
      for (int i = 0; i < 2 && dice.oneIn(3); i++) {
        text.append('|').append(part(deep));
      }
      return text.toString();
    }

    private String part(int deep) {
      StringBuilder text = new StringBuilder(piece(deep));
      for (int i = 0; i < 2 && dice.oneIn(3); i++) {
        text.append('&').append(piece(deep));
      }
      return text.toString();
    }

    private String piece(int deep) {
      if (deep > 0 && dice.oneIn(4)) {
        return "!" + piece(deep - 1);
      }
      if (deep > 0 && dice.oneIn(4)) {
        return "(" + condition(deep - 1) + ")";
      }
      return comparison(deep);
    }

    private String comparison(int deep) {
      return sum(deep) + dice.of("<>=") + sum(deep);
    }

    private String sum(int deep) {
      StringBuilder text = new StringBuilder(term(deep));
      for (int i = 0; i < 3 && dice.oneIn(4); i++) {
        text.append(dice.of("+-")).append(term(deep));
      }
      return text.toString();
    }

    private String term(int deep) {
      StringBuilder text = new StringBuilder(factor(deep));
      for (int i = 0; i < 3 && dice.oneIn(4); i++) {
        text.append(dice.of("*/%")).append(factor(deep));
      }
      return text.toString();
    }

    private String factor(int deep) {
      if (deep > 0 && dice.oneIn(5)) {
        return "[" + sum(deep - 1) + "]";
      }
      if (dice.oneIn(3)) {
        return String.valueOf(dice.oneIn(6) ? dice.below(100000) : dice.below(20));
      }
      return String.valueOf(dice.of("uuudklllwfgsh"));
    }
  }

  /** One run: a new object of each program, and calls to both. */
  static final class Runner {
    private final Dice dice;
    private final LawMaker laws;
    private final HillErrands real = new HillErrands();
    private final Oracle oracle = new Oracle();
    private final StringBuilder log = new StringBuilder();
    private final Map<String, Integer> kinds;
    private final int most;
    int calls;
    private boolean wrong;

    Runner(int run, Map<String, Integer> kinds) {
      dice = new Dice(run);
      laws = new LawMaker(dice);
      this.kinds = kinds;
      most = dice.oneIn(40) ? 20 : dice.between(1, 7);
    }

    String go() {
      int n = dice.between(20, 200);
      int start = dice.below(most + 1);
      for (int i = 0; i < start; i++) {
        call("place", dice.below(60), 0, 0, 0, 0);
      }
      int stairs = dice.below(2 * start + 1);
      for (int i = 0; i < stairs; i++) {
        call("stair", dice.below(start), dice.below(start), dice.below(3), 0, 0);
      }
      for (int i = 0; i < n && !wrong; i++) {
        step();
      }
      return wrong ? log.toString() : null;
    }

    private int place() {
      return dice.oneIn(25) ? dice.between(-1, 20) : dice.below(Math.max(1, oracle.heights.size()));
    }

    private int odd(int low, int high) {
      return dice.oneIn(25) ? dice.between(low - 1, high + 1) : dice.between(low, high);
    }

    private int set(int all, int likely) {
      int set = dice.below(1 << all);
      return dice.oneIn(10) ? set : set & likely;
    }

    private void step() {
      switch (dice.below(36)) {
        case 0:
          if (oracle.heights.size() < most || dice.oneIn(20)) {
            call("place", dice.oneIn(3) ? odd(0, 200) : odd(0, 40), 0, 0, 0, 0);
          }
          break;
        case 1: case 2:
          if (oracle.stairs.size() < 12 || dice.oneIn(20)) {
            call("stair", place(), place(), odd(0, 2), 0, 0);
          }
          break;
        case 3: call("season", odd(0, 3), 0, 0, 0, 0); break;
        case 4: case 5: tellLaw(); break;
        case 6: call("going", odd(0, oracle.stairs.size()), dice.below(2), odd(0, 99), 0, 0); break;
        case 7: case 8: call("way", place(), place(), dice.oneIn(2) ? 0 : odd(0, 99), dice.oneIn(2) ? dice.oneIn(2) ? -1 : 20 : odd(0, 5), 0); break;
        case 9: case 10:
          if (Integer.bitCount(oracle.toldErrands()) < 5 || dice.oneIn(60)) {
            call("errand", odd(0, 7), place(), odd(0, 12), dice.oneIn(2) ? odd(0, 999) : odd(0, 3), 0);
          }
          break;
        case 11: case 12: tellRound(); break;
        case 13: case 14: call("best", place(), set(8, oracle.toldErrands()), dice.oneIn(2) ? odd(0, 4) : dice.oneIn(2) ? -1 : 10, 0, 0); break;
        case 15: call("day", place(), dice.oneIn(2) ? odd(0, 99999) : odd(0, 300), odd(0, 2), 0, 0); break;
        case 16: call("person", place(), place(), odd(0, 99), 0, 0); break;
        case 17: case 18:
          if (Integer.bitCount(oracle.toldThings()) < 5 || dice.oneIn(60)) {
            call("thing", odd(0, 7), place(), place(), dice.oneIn(2) ? odd(0, 99) : odd(0, 9), 0);
          }
          break;
        case 19: call("brought", odd(0, Math.max(0, oracle.people.size() - 1)), odd(0, 7), 0, 0, 0); break;
        case 20: case 21: call("sent", set(8, oracle.toldThings()), dice.oneIn(3) ? dice.oneIn(2) ? -1 : 10 : odd(0, 8), 0, 0, 0); break;
        case 22: call("wants", place(), odd(0, 99), 0, 0, 0); break;
        case 23: call("water", place(), odd(0, 2), 0, 0, 0); break;
        case 24: call("shops", dice.oneIn(12) ? dice.between(-2, 300) : 1 << place() & 0xfffff | 1 << dice.below(3) | dice.below(2) << dice.below(5), 0, 0, 0, 0); break;
        case 25: call("shop", odd(1, 3), odd(-1, 2), 0, 0, 0); break;
        case 26: case 27: {
          int c = dice.below(2) * 400 * dice.below(7);
          int n = c > 0 || dice.oneIn(9) ? 3 : 2;
          int what = dice.oneIn(3) ? 20 : dice.below(2) * 10 + odd(0, 2);
          call("themselves", place() + 20 * place() + c, dice.oneIn(20) ? odd(1, 4) : n, what, 0, 0);
          break;
        }
        case 28: call("oneMore", odd(0, 2), odd(0, 2), 0, 0, 0); break;
        case 29: call("meet", place(), place(), dice.oneIn(9) ? odd(0, 12) : dice.below(2) * 10 + dice.below(2), 0, 0); break;
        case 30: call("fare", place(), place(), dice.oneIn(3) ? odd(-200, 200) : odd(-2, 2), 0, 0); break;
        case 31: call("ends", place(), place(), 0, 0, 0); break;
        case 32: call("falseFares", odd(-1, 3), 0, 0, 0, 0); break;
        case 33: call("draw", place(), odd(1, 20), odd(0, 1), 0, 0); break;
        case 34: rare(); break;
        default: tellCheck();
      }
    }

    private void rare() {
      switch (dice.below(6)) {
        case 0: call("seed", dice.oneIn(3) ? dice.between(65530, 65540) : dice.between(-1, 65535), 0, 0, 0, 0); break;
        case 1: call("keep", 0, 0, 0, 0, 0); break;
        case 2: call("undo", 0, 0, 0, 0, 0); break;
        case 3: call("feed", dice.below(1 << 30) * 5, dice.below(1 << 30) * 3, -dice.below(1 << 30), 5, 6); break;
        default: call("count", dice.between(-1, 62), 0, 0, 0, 0);
      }
    }

    private void tellLaw() {
      String text = laws.text();
      if (text.length() > 160 && !dice.oneIn(10)) {
        return;
      }
      int[] bytes = new int[text.length()];
      for (int i = 0; i < bytes.length; i++) {
        bytes[i] = text.charAt(i);
      }
      feed(bytes);
      log.append("  // ").append(text.replace('\u0000', '?')).append('\n');
      int n = dice.oneIn(30) ? dice.between(-1, 170) : oracle.tape.size() % 20 == 0 && oracle.tape.size() >= bytes.length ? bytes.length : 1;
      call("law", n, 0, 0, 0, 0);
    }

    private void tellRound() {
      int n = dice.between(1, 4);
      int[] bytes = new int[n];
      for (int i = 0; i < n; i++) {
        bytes[i] = dice.oneIn(40) ? dice.below(256) : dice.below(8);
        if (i > 0 && bytes[i] == bytes[i - 1]) {
          bytes[i] = bytes[i] + 1 & 7;
        }
      }
      int told = oracle.toldErrands();
      if (told != 0 && dice.oneIn(2)) {
        for (int i = 0; i < n; i++) {
          while ((told >> (bytes[i] & 7) & 1) == 0) {
            bytes[i] = bytes[i] + 1 & 7;
          }
        }
      }
      clearTape();
      feed(bytes);
      call("round", place(), dice.oneIn(20) ? dice.between(-1, 9) : n, 0, 0, 0);
    }

    private void tellCheck() {
      clearTape();
      int n = dice.between(0, Math.min(oracle.heights.size() + 1, 20));
      int from = place();
      int[] bytes = new int[4 * n];
      for (int i = 0; i < n; i++) {
        int cost = from >= 0 && from < oracle.heights.size() && i < oracle.heights.size() ? oracle.least(from, i, 0) : 0;
        int number = dice.oneIn(12) ? dice.between(-3, 20) : cost;
        for (int k = 0; k < 4; k++) {
          bytes[4 * i + k] = number >> 24 - 8 * k & 255;
        }
      }
      feed(bytes);
      call("check", from, dice.oneIn(12) ? dice.between(-1, 51) : n, 0, 0, 0);
    }

    private void clearTape() {
      if (oracle.tape.size() > 0) {
        call("law", 1, 0, 0, 0, 0);
      }
    }

    private void feed(int[] bytes) {
      for (int at = 0; at < bytes.length; at += 20) {
        int[] five = new int[5];
        for (int i = 0; i < 20; i++) {
          int b = at + i < bytes.length ? bytes[at + i] : 97;
          five[i / 4] = five[i / 4] << 8 | b;
        }
        call("feed", five[0], five[1], five[2], five[3], five[4]);
      }
    }

    private void call(String name, int a, int b, int c, int d, int e) {
      if (wrong) {
        return;
      }
      calls++;
      int is = ofReal(name, a, b, c, d, e);
      int due = oracle.answer(name, a, b, c, d, e);
      String kind = name + " " + (due < 0 ? String.valueOf(name.equals("law") ? due / 1000 * 1000 : name.equals("brought") || name.equals("ends") ? due < -900 ? due : -9 : due) : "+");
      kinds.merge(kind, 1, Integer::sum);
      log.append(name).append('(').append(a).append(", ").append(b).append(", ").append(c).append(", ")
          .append(d).append(", ").append(e).append(") = ").append(is);
      if (is != due) {
        log.append(", due is ").append(due);
        wrong = true;
      }
      log.append('\n');
    }

    private int ofReal(String name, int a, int b, int c, int d, int e) {
      switch (name) {
        case "place": return real.place(a);
        case "stair": return real.stair(a, b, c);
        case "season": return real.season(a) ? 1 : 0;
        case "feed": return real.feed(a, b, c, d, e);
        case "law": return real.law(a);
        case "going": return real.going(a, b == 1, c);
        case "way": return real.way(a, b, c, d);
        case "errand": return real.errand(a, b, c, d) ? 1 : 0;
        case "round": return real.round(a, b);
        case "best": return real.best(a, b, c);
        case "day": return real.day(a, b, c);
        case "person": return real.person(a, b, c);
        case "thing": return real.thing(a, b, c, d) ? 1 : 0;
        case "brought": return real.brought(a, b);
        case "sent": return real.sent(a, b);
        case "wants": return real.wants(a, b) ? 1 : 0;
        case "water": return real.water(a, b);
        case "shops": return real.shops(a);
        case "shop": return real.shop(a, b);
        case "themselves": return real.themselves(a, b, c);
        case "oneMore": return real.oneMore(a, b);
        case "meet": return real.meet(a, b, c);
        case "fare": return real.fare(a, b, c);
        case "ends": return real.ends(a, b);
        case "falseFares": return real.falseFares(a);
        case "seed": return real.seed(a) ? 1 : 0;
        case "draw": return real.draw(a, b, c);
        case "keep": return real.keep();
        case "undo": return real.undo() ? 1 : 0;
        case "check": return real.check(a, b);
        case "count": return real.count(a);
        default: throw new IllegalStateException(name);
      }
    }
  }

  /** A law that is kept as its text and read anew each time. */
  static final class SlowLaw {
    static final class Refused extends RuntimeException {
      private static final long serialVersionUID = 1L;
    }

    final String[] clauses;

    SlowLaw(String text) {
      clauses = text.isEmpty() ? new String[0] : text.split(";");
    }

    /** An automaton with a stack: the fault of a text, or 0. */
    static int fault(String text) {
      ArrayDeque<Character> open = new ArrayDeque<>();
      String state = "clause";
      char mode = 'P';
      int clauses = 0;
      int digits = 0;
      for (int i = 0; i <= text.length(); i++) {
        int sign = i < text.length() ? text.charAt(i) : -1;
        boolean digit = sign >= '0' && sign <= '9';
        int odd = -1000 - i;
        if (state.equals("number")) {
          if (digit && digits == 5) {
            return -2000 - i;
          }
          if (digit) {
            digits++;
            continue;
          }
          state = "behind";
        }
        if (state.equals("behind") && mode == 'R' && !Character.valueOf('[').equals(open.peek()) && "&|)".indexOf(sign) >= 0) {
          state = "pieceEnd";
        }
        switch (state) {
          case "clause":
            if (sign != 'n' && sign != 'c') {
              return odd;
            }
            if (clauses == 12) {
              return -4000 - i;
            }
            clauses++;
            mode = 'P';
            state = sign == 'n' ? "opening" : "operand";
            break;
          case "opening":
            if (sign != '(') {
              return odd;
            }
            open.push('K');
            state = "piece";
            break;
          case "piece":
          case "operand":
            if (state.equals("piece") && (sign == '!' || sign == '(')) {
              if (open.size() == 6) {
                return -5000 - i;
              }
              open.push((char) sign);
              break;
            }
            if (state.equals("piece")) {
              mode = 'L';
            }
            if (sign == '[') {
              if (open.size() == 6) {
                return -5000 - i;
              }
              open.push('[');
              state = "operand";
            } else if (digit) {
              digits = 1;
              state = "number";
            } else if (sign > 0 && "udklwfgsh".indexOf(sign) >= 0) {
              state = "behind";
            } else {
              return odd;
            }
            break;
          case "behind":
            if (sign > 0 && "+-*/%".indexOf(sign) >= 0) {
              state = "operand";
            } else if (Character.valueOf('[').equals(open.peek())) {
              if (sign != ']') {
                return odd;
              }
              open.pop();
            } else if (mode == 'P' && sign == '(') {
              open.push('K');
              state = "piece";
            } else if (mode == 'L' && (sign == '<' || sign == '>' || sign == '=')) {
              mode = 'R';
              state = "operand";
            } else {
              return odd;
            }
            break;
          case "pieceEnd":
            while (open.peek() == '!') {
              open.pop();
            }
            if (sign == '&' || sign == '|') {
              state = "piece";
            } else if (sign == ')') {
              state = open.pop() == 'K' ? "clauseEnd" : "pieceEnd";
            } else {
              return odd;
            }
            break;
          default:
            if (sign == ';') {
              state = "clause";
            } else if (sign != -1) {
              return odd;
            }
        }
        if (sign == -1 && !state.equals("clauseEnd")) {
          return odd;
        }
      }
      return 0;
    }

    /** The cost, or -2. */
    int cost(Map<Character, Integer> letters) {
      int cost = letters.get('u');
      boolean found = false;
      for (String clause : clauses) {
        int at = conditionOf(clause);
        boolean holds;
        try {
          holds = condition(clause.substring(at + 1, clause.length() - 1), letters);
        } catch (Refused r) {
          holds = false;
        }
        if (holds && clause.charAt(0) == 'n') {
          return -2;
        }
        if (holds && !found) {
          found = true;
          int sum;
          try {
            sum = sum(clause.substring(1, at), letters);
          } catch (Refused r) {
            sum = 0;
          }
          cost = sum < 0 ? 0 : sum > 9999 ? 9999 : sum;
        }
      }
      return cost;
    }

    private static int conditionOf(String clause) {
      return clause.indexOf('(');
    }

    /** Where the first (or last) of some signs stands outside all brackets, or -1. */
    private static int outside(String text, String signs, boolean last) {
      int deep = 0;
      int found = -1;
      for (int i = 0; i < text.length(); i++) {
        char sign = text.charAt(i);
        if (sign == '(' || sign == '[') {
          deep++;
        } else if (sign == ')' || sign == ']') {
          deep--;
        } else if (deep == 0 && signs.indexOf(sign) >= 0 && (last || found < 0)) {
          found = i;
        }
      }
      return found;
    }

    private boolean condition(String text, Map<Character, Integer> letters) {
      int bar = outside(text, "|", false);
      if (bar >= 0) {
        return condition(text.substring(0, bar), letters) || condition(text.substring(bar + 1), letters);
      }
      int and = outside(text, "&", false);
      if (and >= 0) {
        return condition(text.substring(0, and), letters) && condition(text.substring(and + 1), letters);
      }
      if (text.charAt(0) == '!') {
        return !condition(text.substring(1), letters);
      }
      if (text.charAt(0) == '(') {
        return condition(text.substring(1, text.length() - 1), letters);
      }
      int at = outside(text, "<>=", false);
      int left = sum(text.substring(0, at), letters);
      int right = sum(text.substring(at + 1), letters);
      char sign = text.charAt(at);
      return sign == '<' ? left < right : sign == '>' ? left > right : left == right;
    }

    private int sum(String text, Map<Character, Integer> letters) {
      int at = outside(text, "+-", true);
      if (at < 0) {
        at = outside(text, "*/%", true);
      }
      if (at >= 0) {
        long left = sum(text.substring(0, at), letters);
        long right = sum(text.substring(at + 1), letters);
        char sign = text.charAt(at);
        if ((sign == '/' || sign == '%') && right == 0) {
          throw new Refused();
        }
        long joined = sign == '+' ? left + right : sign == '-' ? left - right : sign == '*' ? left * right
            : sign == '/' ? left / right : left % right;
        return (int) joined;
      }
      if (text.charAt(0) == '[') {
        return sum(text.substring(1, text.length() - 1), letters);
      }
      if (Character.isDigit(text.charAt(0))) {
        return Integer.parseInt(text);
      }
      return letters.get(text.charAt(0));
    }
  }

  /** The slow program. */
  static final class Oracle {
    static final int LOST = -2;

    record Fare(int a, int b, int steps) {
    }

    record Way(int cost, List<Integer> row) {
      boolean better(Way other) {
        if (other == null || cost != other.cost) {
          return other == null || cost < other.cost;
        }
        if (row.size() != other.row.size()) {
          return row.size() < other.row.size();
        }
        return less(row, other.row);
      }
    }

    static boolean less(List<Integer> a, List<Integer> b) {
      for (int i = 0; i < a.size() && i < b.size(); i++) {
        if (!a.get(i).equals(b.get(i))) {
          return a.get(i) < b.get(i);
        }
      }
      return a.size() < b.size();
    }

    final List<Integer> heights = new ArrayList<>();
    final List<int[]> stairs = new ArrayList<>();
    final List<Integer> tape = new ArrayList<>();
    final int[][] errands = new int[8][];
    final int[][] things = new int[8][];
    final List<int[]> people = new ArrayList<>();
    final int[] wanted = new int[20];
    final List<Fare> fares = new ArrayList<>();
    private SlowLaw law = new SlowLaw("");
    private int season;
    private int x = 1;
    private int keptStairs = -1;
    private int keptSeason;
    private final Map<Integer, Way[][]> known = new HashMap<>();

    int toldErrands() {
      return toldOf(errands);
    }

    int toldThings() {
      return toldOf(things);
    }

    private static int toldOf(int[][] rows) {
      int set = 0;
      for (int i = 0; i < 8; i++) {
        set |= rows[i] == null ? 0 : 1 << i;
      }
      return set;
    }

    int answer(String name, int a, int b, int c, int d, int e) {
      switch (name) {
        case "place": case "stair": case "season": case "law": case "undo": known.clear(); break;
        default:
      }
      switch (name) {
        case "place": return place(a);
        case "stair": return stair(a, b, c);
        case "season": return a < 0 || a > 3 ? 0 : 1 + 0 * (season = a);
        case "feed": return feed(a, b, c, d, e);
        case "law": return law(a);
        case "going": return a < 0 || a >= stairs.size() || c < 0 || c > 99 ? -1 : going(a, b == 1, c);
        case "way": return way(a, b, c, d);
        case "errand": return errand(a, b, c, d);
        case "round": return round(a, b);
        case "best": return best(a, b, c);
        case "day": return day(a, b, c);
        case "person": return person(a, b, c);
        case "thing": return thing(a, b, c, d);
        case "brought": return a < 0 || a >= people.size() || b < 0 || b > 7 || things[b] == null ? -2000000 : brought(a, b);
        case "sent": return sent(a, b);
        case "wants": return wants(a, b);
        case "water": return water(a, b);
        case "shops": return shops(a);
        case "shop": return shop(a, b);
        case "themselves": return themselves(a, b, c);
        case "oneMore": return oneMore(a, b);
        case "meet": return meet(a, b, c);
        case "fare": return fare(a, b, c);
        case "ends": return ends(a, b);
        case "falseFares": return falseFares(a);
        case "seed": return a < 0 || a > 65535 ? 0 : 1 + 0 * (x = a);
        case "draw": return draw(a, b, c);
        case "keep":
          keptStairs = stairs.size();
          keptSeason = season;
          return keptStairs;
        case "undo": return undo();
        case "check": return check(a, b);
        case "count": return count(a);
        default: throw new IllegalStateException(name);
      }
    }

    private boolean there(int p) {
      return p >= 0 && p < heights.size();
    }

    private static boolean in(int n, int low, int high) {
      return low <= n && n <= high;
    }

    private int place(int height) {
      if (!in(height, 0, 200) || heights.size() == 20) {
        return -1;
      }
      heights.add(height);
      return heights.size() - 1;
    }

    private int stair(int a, int b, int sort) {
      if (!there(a) || !there(b) || a == b || !in(sort, 0, 2) || stairs.size() == 40) {
        return -1;
      }
      if (sort == 1 && heights.get(b) > heights.get(a)) {
        return -1;
      }
      stairs.add(new int[] {a, b, sort});
      return stairs.size() - 1;
    }

    private int feed(int... five) {
      if (tape.size() > 180) {
        return -1;
      }
      for (int number : five) {
        for (int k = 3; k >= 0; k--) {
          tape.add(number >> 8 * k & 255);
        }
      }
      return tape.size();
    }

    private int law(int n) {
      if (!in(n, 1, 160) || tape.size() < n) {
        return -1;
      }
      StringBuilder text = new StringBuilder();
      for (int i = 0; i < n; i++) {
        text.append((char) (int) tape.get(i));
      }
      tape.clear();
      int fault = SlowLaw.fault(text.toString());
      if (fault != 0) {
        return fault;
      }
      law = new SlowLaw(text.toString());
      return law.clauses.length;
    }

    private int going(int s, boolean back, int load) {
      int[] stair = stairs.get(s);
      if (back && stair[2] == 1) {
        return LOST;
      }
      int from = stair[back ? 1 : 0];
      int to = stair[back ? 0 : 1];
      Map<Character, Integer> letters = new HashMap<>();
      int rise = heights.get(to) - heights.get(from);
      letters.put('u', rise > 0 ? rise : 0);
      letters.put('d', rise < 0 ? -rise : 0);
      letters.put('k', stair[2]);
      letters.put('l', load);
      letters.put('w', season);
      letters.put('f', from);
      letters.put('g', to);
      letters.put('s', s);
      letters.put('h', heights.get(from));
      return law.cost(letters);
    }

    /** The way, or null: in small towns of all ways that come to no place twice, else by rounds of mending. */
    private Way wayOf(int from, int to, int load) {
      Way[][] table = known.get(load);
      if (table == null) {
        int n = heights.size();
        table = new Way[n][n];
        int[][] direct = new int[n][n];
        for (int[] row : direct) {
          Arrays.fill(row, LOST);
        }
        for (int s = 0; s < stairs.size(); s++) {
          int[] stair = stairs.get(s);
          note(direct, stair[0], stair[1], going(s, false, load));
          note(direct, stair[1], stair[0], going(s, true, load));
        }
        for (int p = 0; p < n; p++) {
          if (n <= 7) {
            allWays(p, direct, new ArrayList<>(List.of(p)), 0, table[p]);
          } else {
            mendWays(p, direct, table[p]);
          }
        }
        known.put(load, table);
      }
      return table[from][to];
    }

    private static void note(int[][] direct, int from, int to, int cost) {
      if (cost != LOST && (direct[from][to] == LOST || cost < direct[from][to])) {
        direct[from][to] = cost;
      }
    }

    private void allWays(int from, int[][] direct, List<Integer> row, int cost, Way[] found) {
      int here = row.get(row.size() - 1);
      Way way = new Way(cost, new ArrayList<>(row));
      if (way.better(found[here])) {
        found[here] = way;
      }
      for (int p = 0; p < heights.size(); p++) {
        if (direct[here][p] != LOST && !row.contains(p)) {
          row.add(p);
          allWays(from, direct, row, cost + direct[here][p], found);
          row.remove(row.size() - 1);
        }
      }
    }

    private void mendWays(int from, int[][] direct, Way[] found) {
      found[from] = new Way(0, List.of(from));
      boolean mended = true;
      while (mended) {
        mended = false;
        for (int a = 0; a < heights.size(); a++) {
          for (int b = 0; b < heights.size() && found[a] != null; b++) {
            if (direct[a][b] != LOST) {
              List<Integer> row = new ArrayList<>(found[a].row);
              row.add(b);
              Way way = new Way(found[a].cost + direct[a][b], row);
              if (way.better(found[b])) {
                found[b] = way;
                mended = true;
              }
            }
          }
        }
      }
    }

    int least(int from, int to, int load) {
      Way way = wayOf(from, to, load);
      return way == null ? LOST : way.cost;
    }

    private int way(int from, int to, int load, int what) {
      if (!there(from) || !there(to) || !in(load, 0, 99) || !in(what, -1, 20)) {
        return -1;
      }
      Way way = wayOf(from, to, load);
      if (way == null) {
        return -2;
      }
      if (what == -1) {
        return way.cost;
      }
      if (what == 20) {
        return way.row.size() - 1;
      }
      return what < way.row.size() ? way.row.get(what) : -1;
    }

    private int errand(int i, int place, int weight, int worth) {
      if (!in(i, 0, 7) || !there(place) || !in(weight, 0, 12) || !in(worth, 0, 999)) {
        return 0;
      }
      errands[i] = new int[] {place, weight, worth};
      return 1;
    }

    /** Cost of an order, or LOST. */
    private int inOrder(int home, List<Integer> order) {
      int here = home;
      int load = 0;
      int sum = 0;
      for (int e : order) {
        int cost = least(here, errands[e][0], load);
        if (cost == LOST) {
          return LOST;
        }
        sum += cost;
        load += errands[e][1];
        here = errands[e][0];
      }
      int cost = least(here, home, load);
      return cost == LOST ? LOST : sum + cost;
    }

    private int round(int home, int n) {
      if (!there(home) || !in(n, 1, 8) || tape.size() < n) {
        return -1;
      }
      List<Integer> order = new ArrayList<>(tape.subList(0, n));
      tape.clear();
      for (int e : order) {
        if (e > 7 || errands[e] == null || order.indexOf(e) != order.lastIndexOf(e)) {
          return -3;
        }
      }
      return inOrder(home, order);
    }

    private List<Integer> bestOrder;
    private int bestCost;

    private void orders(int home, int set, List<Integer> order) {
      boolean whole = true;
      for (int e = 0; e < 8; e++) {
        if ((set >> e & 1) != 0 && !order.contains(e)) {
          whole = false;
          order.add(e);
          orders(home, set, order);
          order.remove(order.size() - 1);
        }
      }
      if (whole) {
        int cost = inOrder(home, order);
        if (cost != LOST && (bestOrder == null || cost < bestCost || cost == bestCost && less(order, bestOrder))) {
          bestOrder = new ArrayList<>(order);
          bestCost = cost;
        }
      }
    }

    private int bestOf(int home, int set) {
      bestOrder = null;
      orders(home, set, new ArrayList<>());
      return bestOrder == null ? LOST : bestCost;
    }

    private int best(int home, int set, int what) {
      if (!there(home) || set <= 0 || (set & ~toldErrands()) != 0) {
        return -1;
      }
      if (what != -1 && what != 10 && !in(what, 0, Integer.bitCount(set) - 1)) {
        return -1;
      }
      if (what == 10) {
        int sum = 0;
        for (int e = 0; e < 8; e++) {
          if ((set >> e & 1) != 0) {
            int cost = inOrder(home, List.of(e));
            if (cost == LOST) {
              return -2;
            }
            sum += cost;
          }
        }
        return sum;
      }
      int cost = bestOf(home, set);
      return cost == LOST ? -2 : what == -1 ? cost : bestOrder.get(what);
    }

    private int day(int home, int steps, int what) {
      if (!there(home) || !in(steps, 0, 99999) || !in(what, 0, 2)) {
        return -1;
      }
      int[] best = null;
      for (int set = 0; set < 256; set++) {
        if ((set & ~toldErrands()) != 0) {
          continue;
        }
        int cost = set == 0 ? 0 : bestOf(home, set);
        if (cost == LOST || cost > steps) {
          continue;
        }
        int worth = 0;
        for (int e = 0; e < 8; e++) {
          worth += (set >> e & 1) != 0 ? errands[e][2] : 0;
        }
        if (best == null || worth > best[0] || worth == best[0] && cost < best[2]) {
          best = new int[] {worth, set, cost};
        }
      }
      return best[what];
    }

    private int person(int from, int to, int carries) {
      if (!there(from) || !there(to) || !in(carries, 0, 99) || people.size() == 8) {
        return -1;
      }
      people.add(new int[] {from, to, carries});
      return people.size() - 1;
    }

    private int thing(int i, int from, int to, int weight) {
      if (!in(i, 0, 7) || !there(from) || !there(to) || !in(weight, 0, 99)) {
        return 0;
      }
      things[i] = new int[] {from, to, weight};
      return 1;
    }

    private int brought(int p, int i) {
      int[] person = people.get(p);
      int[] thing = things[i];
      int a = least(person[0], thing[0], 0);
      int b = least(thing[0], thing[1], thing[2]);
      int c = least(thing[1], person[1], 0);
      int own = least(person[0], person[1], 0);
      return a == LOST || b == LOST || c == LOST || own == LOST ? -1000000 : a + b + c - own;
    }

    private int[] bestSent;
    private List<Integer> bestRow;

    private void rows(List<Integer> which, List<Integer> row, int[][] costs, int n, int cost) {
      if (row.size() == which.size()) {
        boolean better = bestSent == null || n > bestSent[0]
            || n == bestSent[0] && (cost < bestSent[1] || cost == bestSent[1] && less(row, bestRow));
        if (better) {
          bestSent = new int[] {n, cost};
          bestRow = new ArrayList<>(row);
        }
        return;
      }
      int i = which.get(row.size());
      for (int p = 0; p <= 8; p++) {
        boolean nobody = p == 8;
        if (!nobody && (p >= people.size() || row.contains(p) || costs[i][p] == -1000000)) {
          continue;
        }
        row.add(p);
        rows(which, row, costs, nobody ? n : n + 1, nobody ? cost : cost + costs[i][p]);
        row.remove(row.size() - 1);
      }
    }

    private int sent(int set, int what) {
      if (set <= 0 || (set & ~toldThings()) != 0 || what != -1 && what != 10 && !in(what, 0, 7)) {
        return -1;
      }
      List<Integer> which = new ArrayList<>();
      int[][] costs = new int[8][8];
      for (int i = 0; i < 8; i++) {
        if ((set >> i & 1) != 0) {
          which.add(i);
          for (int p = 0; p < people.size(); p++) {
            costs[i][p] = brought(p, i);
          }
        }
      }
      if (what >= 0 && what < 8 && !which.contains(what)) {
        return -2;
      }
      bestSent = null;
      rows(which, new ArrayList<>(), costs, 0, 0);
      return what == -1 ? bestSent[0] : what == 10 ? bestSent[1] : bestRow.get(which.indexOf(what));
    }

    private int wants(int place, int n) {
      if (!there(place) || !in(n, 0, 99)) {
        return 0;
      }
      wanted[place] = n;
      return 1;
    }

    private int water(int well, int what) {
      if (!there(well) || !in(what, 0, 2)) {
        return -1;
      }
      int n = heights.size();
      boolean[][] reach = new boolean[people.size()][n];
      for (int p = 0; p < people.size(); p++) {
        Way way = wayOf(people.get(p)[0], people.get(p)[1], 0);
        if (way != null && way.row.contains(well)) {
          for (int i = way.row.indexOf(well); i < way.row.size(); i++) {
            reach[p][way.row.get(i)] = true;
          }
        }
      }
      if (what == 0) {
        return flow(reach);
      }
      if (what == 1) {
        return Arrays.stream(wanted).sum();
      }
      return n <= 7 ? drySlow(reach) : dryByFlow(reach);
    }

    private int drySlow(boolean[][] reach) {
      int dry = 0;
      int most = 0;
      for (int set = 0; set < 1 << heights.size(); set++) {
        int more = 0;
        for (int q = 0; q < heights.size(); q++) {
          more += (set >> q & 1) != 0 ? wanted[q] : 0;
        }
        for (int p = 0; p < people.size(); p++) {
          boolean any = false;
          for (int q = 0; q < heights.size(); q++) {
            any |= (set >> q & 1) != 0 && reach[p][q];
          }
          more -= any ? people.get(p)[2] : 0;
        }
        boolean fewer = Integer.bitCount(set) < Integer.bitCount(dry);
        if (more > most || more == most && fewer) {
          most = more;
          dry = set;
        }
      }
      return dry;
    }

    /** A place is dry if it would be so still with one step less of water wanted anywhere else it can lean on. */
    private int dryByFlow(boolean[][] reach) {
      int all = flow(reach);
      int dry = 0;
      for (int q = 0; q < heights.size(); q++) {
        if (wanted[q] > 0) {
          wanted[q]++;
          boolean more = flow(reach) > all;
          wanted[q]--;
          dry |= more ? 0 : 1 << q;
        }
      }
      return dry;
    }

    /** Unit after unit along chains of places and people. */
    private int flow(boolean[][] reach) {
      int n = heights.size();
      int[][] given = new int[people.size()][n];
      int[] got = new int[n];
      int[] used = new int[people.size()];
      int sum = 0;
      for (int q = 0; q < n; q++) {
        while (got[q] < wanted[q] && push(q, reach, given, used, new boolean[n])) {
          got[q]++;
          sum++;
        }
      }
      return sum;
    }

    private boolean push(int q, boolean[][] reach, int[][] given, int[] used, boolean[] seen) {
      seen[q] = true;
      for (int p = 0; p < people.size(); p++) {
        if (reach[p][q] && used[p] < people.get(p)[2]) {
          used[p]++;
          given[p][q]++;
          return true;
        }
      }
      for (int p = 0; p < people.size(); p++) {
        for (int other = 0; other < heights.size() && reach[p][q]; other++) {
          if (!seen[other] && given[p][other] > 0 && push(other, reach, given, used, seen)) {
            given[p][other]--;
            given[p][q]++;
            return true;
          }
        }
      }
      return false;
    }

    private int trip(int from, int to) {
      int there = least(from, to, 0);
      int back = least(to, from, 0);
      return there == LOST || back == LOST ? LOST : there + back;
    }

    private int shopCosts(List<Integer> shops) {
      int sum = 0;
      for (int[] person : people) {
        int best = LOST;
        for (int shop : shops) {
          int trip = trip(person[0], shop);
          if (trip != LOST && (best == LOST || trip < best)) {
            best = trip;
          }
        }
        sum += best == LOST ? 1000 : best;
      }
      return sum;
    }

    private int shops(int set) {
      if (set <= 0 || set >= 1 << heights.size() || Integer.bitCount(set) > 3) {
        return -1;
      }
      List<Integer> shops = new ArrayList<>();
      for (int p = 0; p < 20; p++) {
        if ((set >> p & 1) != 0) {
          shops.add(p);
        }
      }
      return shopCosts(shops);
    }

    private int shop(int n, int what) {
      if (!in(n, 1, 3) || heights.size() < n || !in(what, -1, n - 1)) {
        return -1;
      }
      List<Integer> best = null;
      int least = 0;
      for (int set = 0; set < 1 << heights.size(); set++) {
        if (Integer.bitCount(set) != n) {
          continue;
        }
        List<Integer> row = new ArrayList<>();
        for (int p = 0; p < heights.size(); p++) {
          if ((set >> p & 1) != 0) {
            row.add(p);
          }
        }
        int cost = shopCosts(row);
        if (best == null || cost < least || cost == least && less(row, best)) {
          best = row;
          least = cost;
        }
      }
      return what == -1 ? least : best.get(what);
    }

    private int comers(int[] at, int shop) {
      int come = 0;
      for (int[] person : people) {
        int near = -1;
        for (int i = 0; i < at.length; i++) {
          int trip = trip(person[0], at[i]);
          if (trip != LOST && (near < 0 || trip < trip(person[0], at[near]))) {
            near = i;
          }
        }
        come += near == shop ? 1 : 0;
      }
      return come;
    }

    private int themselves(int abc, int n, int what) {
      if (!in(n, 2, 3) || abc < 0 || abc >= (n == 2 ? 400 : 8000)) {
        return -1;
      }
      int[] at = n == 2 ? new int[] {abc % 20, abc / 20} : new int[] {abc % 20, abc / 20 % 20, abc / 400};
      for (int p : at) {
        if (!there(p)) {
          return -1;
        }
      }
      if (!in(what, 0, n - 1) && !in(what, 10, 9 + n) && what != 20) {
        return -1;
      }
      int moves = 0;
      for (int round = 1; round <= 20; round++) {
        int[] before = at.clone();
        for (int i = 0; i < n; i++) {
          at[i] = liked(at, i);
        }
        if (Arrays.equals(before, at) && !movedWithin) {
          break;
        }
        moves++;
        movedWithin = false;
      }
      movedWithin = false;
      if (what == 20) {
        return moves == 20 ? -2 : moves;
      }
      return what < 10 ? at[what] : comers(at, what - 10);
    }

    private boolean movedWithin;

    private int liked(int[] at, int i) {
      int[] come = new int[heights.size()];
      int most = 0;
      for (int p = 0; p < come.length; p++) {
        int[] other = at.clone();
        other[i] = p;
        come[p] = comers(other, i);
        most = Math.max(most, come[p]);
      }
      if (come[at[i]] == most) {
        return at[i];
      }
      movedWithin = true;
      for (int p = 0; ; p++) {
        if (come[p] == most) {
          return p;
        }
      }
    }

    private int oneMore(int sort, int what) {
      if (!in(sort, 0, 2) || !in(what, 0, 2)) {
        return -1;
      }
      if (heights.size() < 2 || stairs.size() == 40) {
        return -2;
      }
      int[] best = null;
      for (int a = 0; a < heights.size(); a++) {
        for (int b = 0; b < heights.size(); b++) {
          boolean fits = sort == 1 ? a != b && heights.get(a) >= heights.get(b) : a < b;
          if (!fits) {
            continue;
          }
          stairs.add(new int[] {a, b, sort});
          known.clear();
          int sum = 0;
          for (int[] person : people) {
            int cost = least(person[0], person[1], 0);
            sum += cost == LOST ? 1000 : cost;
          }
          stairs.remove(stairs.size() - 1);
          known.clear();
          if (best == null || sum < best[2]) {
            best = new int[] {a, b, sum};
          }
        }
      }
      return best[what];
    }

    private int meet(int a, int b, int what) {
      if (!there(a) || !there(b) || what != 0 && what != 1 && what != 10 && what != 11) {
        return -1;
      }
      int where = LOST;
      int least = 0;
      for (int p = 0; p < heights.size(); p++) {
        int one = trip(a, p);
        int two = trip(b, p);
        if (one == LOST || two == LOST) {
          continue;
        }
        int cost = what % 10 == 0 ? one + two : one > two ? one : two;
        if (where == LOST || cost < least) {
          where = p;
          least = cost;
        }
      }
      return where == LOST ? -2 : what < 10 ? where : least;
    }

    private int fare(int a, int b, int steps) {
      if (!there(a) || !there(b) || a == b || !in(steps, -200, 200) || fares.size() == 30) {
        return -1;
      }
      fares.add(new Fare(a, b, steps));
      return fares.size();
    }

    /** How much higher b is than a by some fares, or null. */
    private static Integer apart(List<Fare> some, int a, int b, List<Integer> seen) {
      if (a == b) {
        return 0;
      }
      seen.add(a);
      for (Fare f : some) {
        int next = f.a == a ? f.b : f.b == a ? f.a : -1;
        if (next >= 0 && !seen.contains(next)) {
          Integer rest = apart(some, next, b, seen);
          if (rest != null) {
            return rest + (f.a == a ? f.steps : -f.steps);
          }
        }
      }
      return null;
    }

    private List<Fare> trueOnes(List<Integer> untrue) {
      List<Fare> right = new ArrayList<>();
      for (int i = 0; i < fares.size(); i++) {
        Fare f = fares.get(i);
        Integer so = apart(right, f.a, f.b, new ArrayList<>());
        if (so == null || so == f.steps) {
          right.add(f);
        } else {
          untrue.add(i);
        }
      }
      return right;
    }

    private int ends(int a, int b) {
      if (!there(a) || !there(b)) {
        return -1000;
      }
      Integer so = apart(trueOnes(new ArrayList<>()), a, b, new ArrayList<>());
      return so == null ? -1000 : so;
    }

    private int falseFares(int what) {
      List<Integer> untrue = new ArrayList<>();
      trueOnes(untrue);
      return what == -1 ? untrue.size() : in(what, 0, untrue.size() - 1) ? untrue.get(what) : -1;
    }

    private int draw(int home, int n, int what) {
      if (!there(home) || !in(n, 1, 20) || !in(what, 0, 1)) {
        return -1;
      }
      int set = 0;
      for (int i = 0; i < n; i++) {
        x = (int) ((25173L * x + 13849L) % 65536L);
        if (errands[x % 8] != null) {
          set ^= 1 << x % 8;
        }
      }
      return what == 0 || set == 0 ? set : bestOf(home, set);
    }

    private int undo() {
      if (keptStairs < 0) {
        return 0;
      }
      while (stairs.size() > keptStairs) {
        stairs.remove(stairs.size() - 1);
      }
      season = keptSeason;
      return 1;
    }

    private int check(int from, int n) {
      if (!there(from) || n < 0 || tape.size() < 4 * n) {
        return -2;
      }
      int answer = -1;
      for (int i = n - 1; i >= 0; i--) {
        int number = tape.get(4 * i) << 24 | tape.get(4 * i + 1) << 16 | tape.get(4 * i + 2) << 8 | tape.get(4 * i + 3);
        if (i >= heights.size() || number != least(from, i, 0)) {
          answer = i;
        }
      }
      if (answer == -1 && n < heights.size()) {
        answer = n;
      }
      tape.clear();
      return answer;
    }

    private int count(int what) {
      if (in(what, 20, 39)) {
        return there(what - 20) ? heights.get(what - 20) : -1;
      }
      if (in(what, 40, 59)) {
        return there(what - 40) ? wanted[what - 40] : -1;
      }
      int[] all = {heights.size(), stairs.size(), law.clauses.length, tape.size(), season, toldErrands(),
          people.size(), toldThings(), fares.size(), x};
      return in(what, 0, 9) ? all[what] : -1;
    }
  }
}
