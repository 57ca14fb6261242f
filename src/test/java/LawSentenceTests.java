import java.io.IOException;

/** The sentences about the tape and the law: promises 5, 6 and 7. */
public final class LawSentenceTests {
  private static final String LETTERS = "udklwfgsh";
  private static final String DIGITS = "0123456789";
  private static final String REST_OF_SUM = "+-*/%";
  private static final String FACTOR = LETTERS + DIGITS + "[";
  private static final String PIECE = FACTOR + "(!";
  private static final String COMPARED = "<>=";
  private static final String ENDS_PIECE = "&|)";

  public static void main(String[] args) throws IOException {
    feedFills();
    feedOrder();
    lawLengths();
    lawTakesTheTape();
    lawInPlace();
    manyLaws();
    textHasNoBlanks();
    clausesBetween();
    thirteenthClause();
    forbidding();
    firstPrice();
    priceBounds();
    noneHolds();
    conditions();
    comparisons();
    sums();
    numbers();
    letters();
    lettersOfLoadAndSeason();
    wrapsAround();
    dividing();
    refusedConditions();
    refusedPrices();
    askedFromTheLeft();
    whatCanStand();
    whatCanStandInPieces();
    sixthDigit();
    sevenOpen();
    openTillThePieceEnds();
    placesOfFaults();
    firstFromTheLeft();
    going();
    Ask.finish(args);
  }

  // ---- helpers

  private static void fault(String text, int answer) {
    Ask.due("law of " + text, Ask.law(new HillErrands(), text), answer);
  }

  /** Stair 2 is a rope from 3 (height 50) to 1 (height 20); the season is 3. */
  private static HillErrands rope() {
    HillErrands x = Ask.town(0, 20, 30, 50);
    x.stair(0, 1, 0);
    x.stair(1, 2, 0);
    x.stair(3, 1, 2);
    x.season(3);
    return x;
  }

  /** What the rope costs downward with load 7 (back: upward). */
  private static void price(String text, boolean back, int cost) {
    HillErrands x = rope();
    Ask.due("law of " + text + " is right", Ask.law(x, text) > 0, true);
    Ask.due("going by " + text, x.going(2, back, 7), cost);
  }

  private static void price(String text, int cost) {
    price(text, false, cost);
  }

  private static void holds(String condition, boolean so) {
    price("c7(" + condition + ");c4(0=0)", so ? 7 : 4);
  }

  private static void comesTo(String sum, int number) {
    holds(sum + (number < 0 ? "=0-" + -number : "=" + number), true);
    holds(sum + (number < 0 ? "=0-" + (1 - number) : "=" + (number + 1)), false);
  }

  private static String times(String text, int n) {
    return text.repeat(n);
  }

  // ---- promise 5

  private static void feedFills() {
    Ask.sentence("how many it has; NONE if that would be more than 200.");
    HillErrands x = Ask.level(2);
    for (int i = 1; i <= 10; i++) {
      Ask.due("feed", x.feed(i, 0, -1, Integer.MIN_VALUE, Integer.MAX_VALUE), 20 * i);
      Ask.due("count(3)", x.count(3), 20 * i);
    }
    Ask.due("an eleventh feed", x.feed(0, 0, 0, 0, 0), -1);
    Ask.due("count(3)", x.count(3), 200);
    Ask.due("still full", x.feed(0, 0, 0, 0, 0), -1);
    Ask.due("check takes all", x.check(0, 50), 0);
    Ask.due("count(3)", x.count(3), 0);
    Ask.due("feed again", x.feed(0, 0, 0, 0, 0), 20);
  }

  private static void feedOrder() {
    Ask.sentence("Twenty bytes come behind the tape, the highest of each int first");
    HillErrands x = Ask.level(1);
    x.feed(0x63313d3d, 0, 0, 0, 0);
    Ask.due("c1== begins with c1", x.law(4), -1002);
    // 'c' '7' '(' '0' | '=' '0' ')' ';' | 'n' '(' '1' '=' | '2' ')' ';' 'c' | '8' '(' '0' '=' and, behind, '0' ')'
    Ask.due("feed", x.feed(0x63372830, 0x3d30293b, 0x6e28313d, 0x32293b63, 0x3828303d), 20);
    Ask.due("feed", x.feed(0x30290000, 0, 0, 0, 0), 40);
    Ask.due("both in a row", x.law(22), 3);
    // all bits of a byte: numbers of four bytes each that are read as they were fed
    HillErrands y = Ask.level(2);
    y.stair(0, 1, 0);
    Ask.law(y, "c9*[256+1](0=0)");
    y.feed(0, 0x00000909, 0, 0, 0);
    Ask.due("2313 = 9 * 256 + 9", y.check(0, 2), -1);
    y.feed(0, 0x80000909, 0, 0, 0);
    Ask.due("the highest bit", y.check(0, 2), 1);
    y.feed(0, 0x09090000, 0, 0, 0);
    Ask.due("the lowest first", y.check(0, 2), 1);
  }

  // ---- promise 6: how much of the tape

  private static void lawLengths() {
    Ask.sentence("THE LAW by the first n bytes of the tape (1 to 160; empty then)");
    HillErrands x = Ask.level(1);
    for (int i = 0; i < 10; i++) {
      x.feed(0x6e6e6e6e, 0, 0, 0, 0);
    }
    Ask.due("law(0)", x.law(0), -1);
    Ask.due("law(-1)", x.law(-1), -1);
    Ask.due("law(161)", x.law(161), -1);
    Ask.due("law(200)", x.law(200), -1);
    for (int n : Ask.extremes()) {
      Ask.due("law(" + n + ")", x.law(n), -1);
    }
    Ask.due("the tape stays", x.count(3), 200);
    Ask.due("law(160)", x.law(160), -1001);
    Ask.due("empty then", x.count(3), 0);
    x.feed(0x6e000000, 0, 0, 0, 0);
    Ask.due("law(1)", x.law(1), -1001);
    Ask.due("empty then", x.count(3), 0);

    Ask.sentence("a TEXT of at most 160 bytes");
    String longest = "n(" + times("1+", 76) + "1=077)";
    Ask.due("its length", longest.length(), 160);
    HillErrands y = rope();
    Ask.due("160 bytes", Ask.law(y, longest), 1);
    Ask.due("it holds", y.going(2, false, 0), -2);
    Ask.tape(y, Ask.bytes("n(" + times("1+", 76) + "1=0078)"));
    Ask.due("161 bytes", y.law(161), -1);
    Ask.due("the tape stays", y.count(3), 180);
    Ask.due("the TEXT stays", y.going(2, false, 0), -2);
  }

  private static void lawTakesTheTape() {
    Ask.sentence("NONE: no such n, it has not so many (the tape stays).");
    HillErrands x = new HillErrands();
    Ask.due("of an empty tape", x.law(1), -1);
    Ask.tape(x, Ask.bytes("n(0=0);c1(0=0);c2(0=0)"));
    Ask.due("one more than it has", x.law(41), -1);
    Ask.due("the tape stays", x.count(3), 40);
    Ask.due("all that it has", x.law(40), -1022);
    Ask.due("empty then", x.count(3), 0);
    Ask.tape(x, Ask.bytes("n(0=0);c1(0=0);c2(0"));
    Ask.due("21 of 20", x.law(21), -1);
    Ask.due("the tape stays", x.count(3), 20);
    Ask.due("behind it", x.feed(0x29292929, 0, 0, 0, 0), 40);
    Ask.due("the end is the n-th byte", x.law(6), 1);
    Ask.due("what is behind falls, too", x.count(3), 0);
    Ask.tape(x, Ask.bytes("n(0=0)"));
    Ask.due("the end ahead of the )", x.law(5), -1005);
  }

  private static void lawInPlace() {
    Ask.sentence("a FAULT: -1000 times its number, less its place (the TEXT before stays)");
    HillErrands x = rope();
    String[] faulty = {"n(0=0);c5(0=0", "c5(0=0);c123456", times("c5(0=0);", 12) + "n", "c5(0=0);n(((((((0=0)))))))"};
    int[] answers = {-1013, -2014, -4096, -5015};
    for (int i = 0; i < faulty.length; i++) {
      Ask.due("fault " + i + " ahead of any law", Ask.law(x, faulty[i]), answers[i]);
      Ask.due("the tape is empty", x.count(3), 0);
      Ask.due("no CLAUSES", x.count(2), 0);
      Ask.due("as without a law", x.going(2, true, 0), 30);
    }
    Ask.due("law", Ask.law(x, "c3(1=2);c8(0=0)"), 2);
    for (int i = 0; i < faulty.length; i++) {
      Ask.due("fault " + i, Ask.law(x, faulty[i]), answers[i]);
      Ask.due("CLAUSES stay", x.count(2), 2);
      Ask.due("the TEXT stays", x.going(2, true, 0), 8);
      Ask.due("ways, too", x.way(1, 3, 0, -1), 8);
    }

    Ask.sentence("in place of the one before: how many CLAUSES");
    Ask.due("the shorter one", Ask.law(x, "c6(k=2)"), 1);
    Ask.due("count(2)", x.count(2), 1);
    Ask.due("nothing of the one before", x.going(2, true, 0), 6);
    Ask.due("nothing of the one before", x.going(0, false, 0), 20);
    Ask.due("the longer one", Ask.law(x, "n(k=1);n(k=3);c2(k=0)"), 3);
    Ask.due("nothing of the one before", x.going(2, true, 0), 30);
    Ask.due("its own", x.going(0, false, 0), 2);
    Ask.due("ways, too", x.way(1, 0, 99, -1), 2);
    Ask.due("the first one again", Ask.law(x, "c3(1=2);c8(0=0)"), 2);
    Ask.due("ways, too", x.way(1, 0, 99, -1), 8);
  }

  /** However many texts have been read, right and faulty ones, the last right one holds as the first did. */
  private static void manyLaws() {
    Ask.sentence("in place of the one before: how many CLAUSES");
    HillErrands x = rope();
    for (int i = 0; i < 30; i++) {
      String text = times("n(0=1);", i % 11) + "c1" + times("+1", 20 + i % 7) + "+" + i + "(0=0)";
      Ask.due("law " + i, Ask.law(x, text), i % 11 + 1);
      Ask.due("its price", x.going(2, true, 0), 21 + i % 7 + i);
      if (i % 3 == 0) {
        Ask.due("a faulty one", Ask.law(x, text + ";"), -1001 - text.length());
        Ask.due("the price stays", x.going(2, true, 0), 21 + i % 7 + i);
        Ask.due("CLAUSES stay", x.count(2), i % 11 + 1);
      }
    }
  }

  private static void textHasNoBlanks() {
    Ask.sentence("no blanks (none at first)");
    String text = "c[5](u=0);n(!k<2)";
    for (int i = 0; i <= text.length(); i++) {
      for (char blank : new char[] {' ', '\t', '\n', (char) 0, (char) 160}) {
        fault(text.substring(0, i) + blank + text.substring(i), -1000 - i);
      }
    }
    HillErrands x = rope();
    Ask.due("no CLAUSES", x.count(2), 0);
    Ask.due("steps up", x.going(2, true, 99), 30);
    Ask.due("steps up", x.going(2, false, 99), 0);
  }

  // ---- clauses

  private static void clausesBetween() {
    Ask.sentence("CLAUSES (12 at most) with a ; (59) between two");
    for (int n = 1; n <= 12; n++) {
      HillErrands x = new HillErrands();
      Ask.due(n + " CLAUSES", Ask.law(x, times("n(0=0);", n - 1) + "n(0=0)"), n);
      Ask.due("count(2)", x.count(2), n);
      fault(times("n(0=0);", n), n < 12 ? -1000 - 7 * n : -1084);
    }
    fault("n(0=0)n(0=0)", -1006);
    fault("n(0=0):n(0=0)", -1006);
    fault("n(0=0)<n(0=0)", -1006);
    fault("n(0=0),n(0=0)", -1006);
    fault("n(0=0);;n(0=0)", -1007);
    fault(";n(0=0)", -1000);
    fault(";", -1000);
  }

  private static void thirteenthClause() {
    Ask.sentence("4 a 13th CLAUSE, at its letter (if that can stand there)");
    String twelve = times("n(0=0);", 12);
    fault(twelve + "n(0=0)", -4084);
    fault(twelve + "c1(0=0)", -4084);
    fault(twelve + "n", -4084);
    fault(twelve + "c", -4084);
    fault(twelve + "nn", -4084);
    fault(twelve, -1084);
    for (int sign = 0; sign < 256; sign++) {
      if (sign != 'n' && sign != 'c') {
        fault(twelve + (char) sign, -1084);
      }
    }
    fault(twelve + "u=0)", -1084);
    fault(times("c10(0=0);", 12) + "c10(0=0)", -4108);
  }

  private static void forbidding() {
    Ask.sentence("n and (C): a going for which it holds can't be (any n will do)");
    for (int clauses = 1; clauses <= 12; clauses++) {
      for (int at = 0; at < clauses; at++) {
        price(forbidding(clauses, at, "n(0=0)", "c1(0=0)"), -2);
        price(forbidding(clauses, at, "n(0=0)", "n(0=1)"), -2);
        price(forbidding(clauses, at, "n(0=1)", "c1(0=0)"), clauses == 1 ? 0 : 1);
      }
    }
    price("n(0=0);n(0=0)", -2);
    price("n(0=1);n(1=0)", 0);
    price("n(g=1)", -2);
    price("n(g=1)", true, 30);
  }

  private static String forbidding(int clauses, int at, String that, String others) {
    StringBuilder text = new StringBuilder();
    for (int i = 0; i < clauses; i++) {
      text.append(i == 0 ? "" : ";").append(i == at ? that : others);
    }
    return text.toString();
  }

  private static void firstPrice() {
    Ask.sentence("of the first CLAUSE whose C holds");
    for (int first = 1; first <= 12; first++) {
      StringBuilder text = new StringBuilder();
      for (int i = 1; i <= 12; i++) {
        text.append(i == 1 ? "" : ";").append('c').append(40 - i).append(i < first ? "(0=1)" : "(0=0)");
      }
      price(text.toString(), 40 - first);
    }
    price("c5(0=0);c4(0=0)", 5);
    price("c0(0=0);c4(0=0)", 0);
    price("c0-5(0=0);c4(0=0)", 0);
    price("c10000(0=0);c4(0=0)", 9999);
    price("n(0=1);c5(0=0);n(0=1);c6(0=0)", 5);
    price("c5(g=3);c6(g=1)", 6);
    price("c5(g=3);c6(g=1)", true, 5);
  }

  private static void priceBounds() {
    Ask.sentence("what it costs (0 to 9999;");
    price("c0(0=0)", 0);
    price("c1(0=0)", 1);
    price("c9998(0=0)", 9998);
    price("c9999(0=0)", 9999);
    Ask.sentence("beyond its bounds the bound)");
    price("c0-1(0=0)", 0);
    price("c0-99999(0=0)", 0);
    price("c10000(0=0)", 9999);
    price("c99999(0=0)", 9999);
    price("c65536*32768(0=0)", 0);
    price("c65536*32768-1(0=0)", 9999);
    price("c99999*99999(0=0)", 9999);
    price("c65536*65536(0=0)", 0);
    HillErrands x = rope();
    Ask.law(x, "c10000(0=0)");
    Ask.due("ways go by the bound", x.way(3, 0, 0, -1), 2 * 9999);
  }

  private static void noneHolds() {
    Ask.sentence("if none holds: as many as it goes steps up");
    price("c5(0=1)", 0);
    price("c5(0=1)", true, 30);
    price("c5(0=1);c6(1=0);n(1=0)", true, 30);
    price("n(0=1)", true, 30);
    price("c5(1/0=0)", true, 30);
    HillErrands x = Ask.town(0, 200, 200);
    x.stair(0, 1, 0);
    x.stair(1, 2, 2);
    Ask.due("most steps", x.going(0, false, 0), 200);
    Ask.due("none down", x.going(0, true, 0), 0);
    Ask.due("none on the level", x.going(1, false, 0), 0);
    Ask.due("none on the level", x.going(1, true, 0), 0);
  }

  // ---- conditions

  private static void conditions() {
    Ask.sentence("PARTS with a | between two, one of which must hold; a PART: PIECES with an & between two, all of which must");
    for (int bits = 0; bits < 16; bits++) {
      boolean a = (bits & 1) != 0;
      boolean b = (bits & 2) != 0;
      boolean c = (bits & 4) != 0;
      boolean d = (bits & 8) != 0;
      holds(filled("a", bits), a);
      holds(filled("a|b", bits), a || b);
      holds(filled("a&b", bits), a && b);
      holds(filled("a|b|c", bits), a || b || c);
      holds(filled("a&b&c", bits), a && b && c);
      holds(filled("a&b|c", bits), a && b || c);
      holds(filled("a|b&c", bits), a || b && c);
      holds(filled("a&b|c&d", bits), a && b || c && d);
      holds(filled("a|b&c|d", bits), a || b && c || d);
      holds(filled("a&b&c|d", bits), a && b && c || d);
      holds(filled("a|b&c&d", bits), a || b && c && d);
      holds(filled("a|b|c|d", bits), a || b || c || d);
      holds(filled("a&b&c&d", bits), a && b && c && d);
    }
    Ask.sentence("a PIECE: !PIECE, (C), or E, one of < > =, and E");
    for (int bits = 0; bits < 8; bits++) {
      boolean a = (bits & 1) != 0;
      boolean b = (bits & 2) != 0;
      boolean c = (bits & 4) != 0;
      holds(filled("!a", bits), !a);
      holds(filled("!!a", bits), a);
      holds(filled("!!!!!a", bits), !a);
      holds(filled("(a)", bits), a);
      holds(filled("!(a)", bits), !a);
      holds(filled("(!a)", bits), !a);
      holds(filled("!a&b", bits), !a && b);
      holds(filled("!a|b", bits), !a || b);
      holds(filled("a&!b", bits), a && !b);
      holds(filled("a|!b", bits), a || !b);
      holds(filled("!(a&b)", bits), !(a && b));
      holds(filled("!(a|b)", bits), !(a || b));
      holds(filled("(a|b)&c", bits), (a || b) && c);
      holds(filled("a&(b|c)", bits), a && (b || c));
      holds(filled("!(a|b)&c", bits), !(a || b) && c);
      holds(filled("!(a&b)|c", bits), !(a && b) || c);
      holds(filled("!(!(a|b)&!c)", bits), a || b || c);
      holds(filled("((a&b)|(b&c))&(a|c)", bits), b && (a || c));
    }
    holds("0=0", true);
    holds("0=5", false);
  }

  /** Puts comparisons for the letters a to d: one that holds for a bit that is set. */
  private static String filled(String form, int bits) {
    StringBuilder text = new StringBuilder();
    for (char sign : form.toCharArray()) {
      int which = sign - 'a';
      text.append(which < 0 || which > 3 ? "" + sign : (bits >> which & 1) != 0 ? "2>1" : "2<1");
    }
    return text.toString();
  }

  private static void comparisons() {
    Ask.sentence("or E, one of < > =, and E");
    int[] numbers = {0, 1, 2, 99998, 99999};
    for (int a : numbers) {
      for (int b : numbers) {
        holds(a + "<" + b, a < b);
        holds(a + ">" + b, a > b);
        holds(a + "=" + b, a == b);
        holds("0-" + a + "<0-" + b, -a < -b);
        holds("0-" + a + ">" + b, false);
      }
    }
    holds("2+3=4+1", true);
    holds("2*3<7-0", true);
    holds("7-0>2*3", true);
  }

  // ---- sums

  private static void sums() {
    Ask.sentence("E: TERMS with + or - between two; a TERM: FACTORS with one of * / % between two; from the left on");
    comesTo("5", 5);
    comesTo("2+3", 5);
    comesTo("2-3", -1);
    comesTo("20-5-4", 11);
    comesTo("20-5+4", 19);
    comesTo("20+5-4", 21);
    comesTo("1+2+3+4", 10);
    comesTo("2*3", 6);
    comesTo("2*3*4", 24);
    comesTo("60/4*3", 45);
    comesTo("60*4/3", 80);
    comesTo("60/4/3", 5);
    comesTo("7%4*2", 6);
    comesTo("2*7%4", 2);
    comesTo("60/7%3", 2);
    comesTo("60%7/2", 2);
    comesTo("60%17%5", 4);
    comesTo("2+3*4", 14);
    comesTo("2*3+4", 10);
    comesTo("20-6/3", 18);
    comesTo("20-9%4", 19);
    comesTo("20-6/3*2-1", 15);
    Ask.sentence("a FACTOR: [E], a number of one to five digits, or a letter");
    comesTo("[5]", 5);
    comesTo("[2+3]*4", 20);
    comesTo("4*[2+3]", 20);
    comesTo("20-[5-4]", 19);
    comesTo("60/[4*3]", 5);
    comesTo("60%[7%4]", 0);
    comesTo("[[1+2]*[3+4]-1]*2", 40);
    comesTo("[20-[6-[4-[3-1]]]]", 16);
  }

  private static void numbers() {
    Ask.sentence("a number of one to five digits");
    comesTo("0", 0);
    comesTo("9", 9);
    comesTo("10", 10);
    comesTo("123", 123);
    comesTo("1234", 1234);
    comesTo("12345", 12345);
    comesTo("99998", 99998);
    comesTo("00007", 7);
    comesTo("00000", 0);
    comesTo("67890", 67890);
  }

  private static void letters() {
    Ask.sentence("u steps up, d steps down (one of both 0)");
    price("cu(0=0)", false, 0);
    price("cd(0=0)", false, 30);
    price("cu(0=0)", true, 30);
    price("cd(0=0)", true, 0);
    HillErrands x = Ask.town(200, 0, 200);
    x.stair(0, 1, 0);
    x.stair(0, 2, 2);
    Ask.law(x, "cu*10+d+1(0=0)");
    Ask.due("200 down", x.going(0, false, 0), 201);
    Ask.due("200 up", x.going(0, true, 0), 2001);
    Ask.due("level: both 0", x.going(1, false, 0), 1);
    Ask.due("level: both 0", x.going(1, true, 0), 1);

    Ask.sentence("f the PLACE from which, g that to which one goes, s the STAIR, h the HEIGHT from which");
    price("cf*10+g(0=0)", false, 31);
    price("cf*10+g(0=0)", true, 13);
    price("cs(0=0)", false, 2);
    price("cs(0=0)", true, 2);
    price("ch(0=0)", false, 50);
    price("ch(0=0)", true, 20);
    HillErrands y = new HillErrands();
    for (int i = 0; i < 20; i++) {
      y.place(i * 10);
    }
    for (int s = 0; s < 40; s++) {
      y.stair(s % 2 * 19, (s + 1) % 2 * 19, 0);
    }
    Ask.law(y, "cs*200+f*10+g(0=0)");
    Ask.due("the last STAIR from the first PLACE to the last", y.going(38, false, 0), 38 * 200 + 19);
    Ask.due("and back", y.going(38, true, 0), 38 * 200 + 190);
    Ask.due("the last one, from the last PLACE", y.going(39, false, 0), 39 * 200 + 190);
    Ask.law(y, "ch+s(0=0)");
    Ask.due("the last one, from the highest", y.going(39, false, 0), 190 + 39);
    Ask.due("the last one, from the lowest", y.going(39, true, 0), 39);

    Ask.sentence("k the SORT");
    HillErrands z = Ask.level(2);
    z.stair(0, 1, 0);
    z.stair(0, 1, 1);
    z.stair(0, 1, 2);
    Ask.law(z, "ck+1(0=0)");
    for (int sort = 0; sort < 3; sort++) {
      Ask.due("sort " + sort, z.going(sort, false, 0), sort + 1);
    }
    Ask.due("a rope back", z.going(2, true, 0), 3);
  }

  private static void lettersOfLoadAndSeason() {
    Ask.sentence("l the LOAD (0 to 99)");
    HillErrands x = rope();
    Ask.law(x, "cl+1(0=0)");
    for (int load = 0; load <= 99; load++) {
      Ask.due("load " + load, x.going(0, load % 2 == 0, load), load + 1);
    }
    Ask.due("load 99 of a way", x.way(0, 3, 99, -1), 200);
    Ask.due("load 98 of a way", x.way(0, 3, 98, -1), 198);
    Ask.due("load 0 of a way", x.way(0, 3, 0, -1), 2);
    Ask.due("load 100", x.going(0, false, 100), -1);
    Ask.due("load -1", x.going(0, false, -1), -1);

    Ask.sentence("w the SEASON");
    HillErrands y = rope();
    y.season(0);
    Ask.law(y, "cw+5(0=0)");
    for (int season = 0; season < 4; season++) {
      Ask.due("season", y.season(season), true);
      Ask.due("season " + season, y.going(0, false, 0), season + 5);
      Ask.due("season " + season + " of a way", y.way(0, 3, 0, -1), 2 * season + 10);
    }
  }

  private static void wrapsAround() {
    Ask.sentence("All is reckoned with 32 bits, as the machine does");
    String most = "21474*99999+99999+5122";
    String least = "65536*32768";
    holds(most + ">0", true);
    holds(most + "+1<0", true);
    holds(most + "+1=" + least, true);
    holds(least + "<0", true);
    holds(least + "-1>0", true);
    holds(least + "-1=" + most, true);
    holds("0-" + least + "=" + least, true);
    holds("0-[" + least + "]<0", true);
    holds("65536*65536=0", true);
    holds("65536*65535=0-65536", true);
    holds("99999*99999=14098*[99999+1]+65409", true);
    holds(least + "/[0-1]=" + least, true);
    holds(least + "%[0-1]=0", true);
    holds("[" + least + "]*[0-1]=" + least, true);
    // no comparison by the difference, which would wrap around
    holds(least + "<1", true);
    holds("1>" + least, true);
    holds(most + "<0-2", false);
    holds("0-2>" + most, false);
    holds(least + "<" + most, true);
    holds(most + ">" + least, true);
    // what wraps around on the way is as it wraps
    price("c65536*65536+8(0=0)", 8);
    price("c[" + most + "+1]/65536+32768+6(0=0)", 6);
  }

  private static void dividing() {
    Ask.sentence("as the machine does");
    comesTo("7/2", 3);
    comesTo("[0-7]/2", -3);
    comesTo("7/[0-2]", -3);
    comesTo("[0-7]/[0-2]", 3);
    comesTo("1/2", 0);
    comesTo("[0-1]/2", 0);
    comesTo("7%4", 3);
    comesTo("[0-7]%4", -3);
    comesTo("7%[0-4]", 3);
    comesTo("[0-7]%[0-4]", -3);
    comesTo("8%4", 0);
    comesTo("0/7", 0);
    comesTo("0%7", 0);
    comesTo("5/1", 5);
    comesTo("5%1", 0);
    comesTo("5/[0-1]", -5);
  }

  // ---- what is divided by 0

  private static void refusedConditions() {
    Ask.sentence("what is divided by 0 is REFUSED: then the C as a whole does not hold (through any !, ( ) and |)");
    String[] refused = {"1/0=0", "1%0=0", "0/0=0", "0%0=0", "0=1/0", "0=1%0", "1/0<1", "0>1/0", "5/[1-1]=0", "5%u=0",
        "0*[1/0]=0", "1+2/0=1", "[7%0]=0", "2/[1/2]=0", "1/0*0=0", "1/0=1/0"};
    for (String piece : refused) {
      holds(piece, false);
      holds("!" + piece, false);
      holds("!!" + piece, false);
      holds("(" + piece + ")", false);
      holds("!(" + piece + ")", false);
      holds("!(!" + piece + ")", false);
      holds(piece + "|0=0", false);
      holds("(" + piece + ")|0=0", false);
      holds("!" + piece + "|0=0", false);
      holds("(" + piece + "|0=0)|0=0", false);
      holds("0=1|" + piece, false);
      holds("0=1|" + piece + "|0=0", false);
      holds("0=0&" + piece, false);
      holds("0=0&" + piece + "|0=0", false);
      holds("!(0=0&" + piece + ")|0=0", false);
    }
    // by 1 and by -1 is not by 0
    holds("5/[2-1]=5", true);
    holds("5%[0-1]=0", true);
    // what is refused in one CLAUSE does not matter in another one
    price("c5(1/0=0);c6(0=0)", 6);
    price("n(1/0=0);c6(0=0)", 6);
    price("n(!1/0=0);c6(0=0)", 6);
    price("c5(1/0=0);n(0=0)", -2);
    price("n(1/0=0);n(0=0)", -2);
    price("c5(1/0=0);c6(1/0=0);c7(0=0)", 7);
    price("c5(1/0=0)", true, 30);
    // it hangs on the going
    price("n(60/u=2);c6(0=0)", false, 6);
    price("n(60/u=2);c6(0=0)", true, -2);
  }

  private static void refusedPrices() {
    Ask.sentence("an E is 0");
    price("c5/0(0=0)", 0);
    price("c5%0(0=0)", 0);
    price("c0/0(0=0)", 0);
    price("c5/0+9(0=0)", 0);
    price("c9+5/0(0=0)", 0);
    price("c9-5%0(0=0)", 0);
    price("c5/0*2+9(0=0)", 0);
    price("c5/[3-3](0=0)", 0);
    price("c5/0(0=0)", true, 0);
    // of the first whose C holds, though its E is refused
    price("c5/0(0=0);c6(0=0)", true, 0);
    price("c5/0(0=1);c6(0=0)", 6);
    price("c6(0=0);c5/0(0=0)", 6);
    price("c60/u+1(0=0)", false, 0);
    price("c60/u+1(0=0)", true, 3);
  }

  private static void askedFromTheLeft() {
    Ask.sentence("Of a C as much is asked, from the left, as matters.");
    holds("0=0|1/0=0", true);
    holds("0=0|1%0=0|1/0=0", true);
    holds("0=1|0=0|1/0=0", true);
    holds("0=0&0=0|1/0=0", true);
    holds("0=0|0=1&1/0=0", true);
    holds("0=1&1/0=0", false);
    holds("0=1&1/0=0|0=0", true);
    holds("0=1&1/0=0&1/0=0|0=0", true);
    holds("0=0&0=1&1/0=0|0=0", true);
    holds("!(0=1&1/0=0)", true);
    holds("!(0=0|1/0=0)", false);
    holds("!(0=0|1/0=0)|0=0", true);
    holds("(0=0|1/0=0)&0=0", true);
    holds("(0=0|1/0=0)&0=1|0=0", true);
    holds("(0=1&1/0=0)|0=0", true);
    holds("0=0|(1/0=0)", true);
    holds("0=0|!1/0=0", true);
    holds("!0=0&1/0=0|0=0", true);
    holds("!0=1|1/0=0", true);
    // what matters is asked
    holds("0=1|1/0=0", false);
    holds("0=0&1/0=0|0=0", false);
    holds("1/0=0&0=1|0=0", false);
    holds("1/0=0|0=0", false);
    holds("(0=1|1/0=0)|0=0", false);
    holds("!(0=0&1/0=0)", false);
    holds("!0=1&1/0=0|0=0", false);
  }

  // ---- faults

  /** For each of the 256 bytes behind a beginning: only what can stand there is followed by the end's fault. */
  private static void follows(String begin, String these) {
    HillErrands x = new HillErrands();
    if (begin.length() > 0) {
      Ask.due("the end of " + begin, Ask.law(x, begin), -1000 - begin.length());
    }
    for (int sign = 0; sign < 256; sign++) {
      boolean can = these.indexOf(sign) >= 0;
      boolean whole = can && sign == ')' && open(begin) == 1;
      int due = whole ? 1 : -1000 - begin.length() - (can ? 1 : 0);
      Ask.due("law of " + begin + " and " + sign, Ask.law(x, begin + (char) sign), due);
      Ask.due("count(2)", x.count(2), whole ? 1 : 0);
      x = whole || sign % 64 == 63 ? new HillErrands() : x;
    }
  }

  /** How many ( are not closed. */
  private static long open(String begin) {
    return begin.chars().filter(sign -> sign == '(').count() - begin.chars().filter(sign -> sign == ')').count();
  }

  private static void whatCanStand() {
    Ask.sentence("1 what can't stand there (the end, too)");
    follows("", "nc");
    follows("n", "(");
    follows("c", FACTOR);
    follows("c[", FACTOR);
    follows("c[[", FACTOR);
    for (char sign : REST_OF_SUM.toCharArray()) {
      follows("cu" + sign, FACTOR);
      follows("c[u" + sign, FACTOR);
      follows("n(u" + sign, FACTOR);
    }
    for (char letter : LETTERS.toCharArray()) {
      follows("c" + letter, REST_OF_SUM + "(");
    }
    follows("c5", REST_OF_SUM + "(" + DIGITS);
    follows("c5+5", REST_OF_SUM + "(" + DIGITS);
    follows("c[u", REST_OF_SUM + "]");
    follows("c[5", REST_OF_SUM + "]" + DIGITS);
    follows("c[[u", REST_OF_SUM + "]");
    follows("c[[u]", REST_OF_SUM + "]");
    follows("c[u]", REST_OF_SUM + "(");
    follows("c5(", PIECE);
    followsWhole("n(0=0)");
    followsWhole("c5(0=0)");
    followsWhole("n(0=0);c5(0=0)");
    follows("n(0=0);", "nc");
    follows("c5(0=0);", "nc");
    follows("c5(0=0);n(0=0);", "nc");
  }

  /** Behind a whole text nothing but a ; can stand, and the end. */
  private static void followsWhole(String text) {
    for (int sign = 0; sign < 256; sign++) {
      fault(text + (char) sign, -1000 - text.length() - (sign == ';' ? 1 : 0));
    }
    Ask.due("law of " + text, Ask.law(new HillErrands(), text) > 0, true);
  }

  private static void whatCanStandInPieces() {
    Ask.sentence("1 what can't stand there (the end, too)");
    follows("n(", PIECE);
    follows("n(!", PIECE);
    follows("n(!!", PIECE);
    follows("n((", PIECE);
    follows("n(!(", PIECE);
    follows("n([", FACTOR);
    follows("n(u", REST_OF_SUM + COMPARED);
    follows("n(5", REST_OF_SUM + COMPARED + DIGITS);
    follows("n(u+5", REST_OF_SUM + COMPARED + DIGITS);
    follows("n([u", REST_OF_SUM + "]");
    follows("n([u]", REST_OF_SUM + COMPARED);
    follows("n((u", REST_OF_SUM + COMPARED);
    for (char sign : COMPARED.toCharArray()) {
      follows("n(u" + sign, FACTOR);
      follows("n(u" + sign + "u", REST_OF_SUM + ENDS_PIECE);
      follows("n(u" + sign + "5", REST_OF_SUM + ENDS_PIECE + DIGITS);
    }
    follows("n(u=[", FACTOR);
    follows("n(u=[u", REST_OF_SUM + "]");
    follows("n(u=[u]", REST_OF_SUM + ENDS_PIECE);
    follows("n(u=u+", FACTOR);
    follows("n((u=u", REST_OF_SUM + ENDS_PIECE);
    follows("n((u=u)", ENDS_PIECE);
    follows("n(((u=u))", ENDS_PIECE);
    follows("n(!(u=u)", ENDS_PIECE);
    follows("n(!u=u", REST_OF_SUM + ENDS_PIECE);
    for (char sign : "&|".toCharArray()) {
      follows("n(u=u" + sign, PIECE);
      follows("n((u=u)" + sign, PIECE);
      follows("n((u=u" + sign, PIECE);
      follows("n(u=u" + sign + "u", REST_OF_SUM + COMPARED);
      follows("n(u=u" + sign + "u=u", REST_OF_SUM + ENDS_PIECE);
    }
  }

  private static void sixthDigit() {
    Ask.sentence("2 a sixth digit, at it");
    String[] begins = {"c", "c5+", "c5*", "c[", "n(", "n(!", "n((", "n(5=", "n(5<", "n(5+", "n(5=5&", "n(5=[5-", "n(5=5);c"};
    String[] digits = {"12345", "00000", "99999"};
    for (String begin : begins) {
      for (String five : digits) {
        for (char sixth : DIGITS.toCharArray()) {
          fault(begin + five + sixth, -2000 - begin.length() - 5);
        }
        fault(begin + five, -1000 - begin.length() - 5);
      }
    }
    fault("c1234567", -2006);
    fault("c12345/(0=0)", -1007);
    fault("c12345:(0=0)", -1006);
    fault("c12345(0=0)", 1);
    fault("c12345+12345(12345=12345)", 1);
  }

  private static void sevenOpen() {
    Ask.sentence("5 a seventh of ( [ ! that are open in one another, at it (the ( of the CLAUSE counts;");
    fault("n((((((0=0))))))", 1);
    fault("n(((((((0=0)))))))", -5007);
    fault("n(!!!!!0=0)", 1);
    fault("n(!!!!!!0=0)", -5007);
    fault("n([[[[[0]]]]]=0)", 1);
    fault("n([[[[[[0]]]]]]=0)", -5007);
    fault("n(0=[[[[[0]]]]])", 1);
    fault("n(0=[[[[[[0]]]]]])", -5009);
    fault("n(!(!([0]=0)))", 1);
    fault("n(!(!([[0]]=0)))", -5007);
    fault("c5(!(!(!0=0)))", 1);
    fault("c5(!(!(!(0=0))))", -5008);
    fault("c5(!(!(!!0=0)))", -5008);
    for (String sixOpen : new String[] {"n((((((", "n(!!!!!", "n(!(!(!", "n((!(!(", "c5(!!(((", "n(0=0|(0=0&((((", "n(0=0);n(!!!!("}) {
      int at = sixOpen.length();
      fault(sixOpen + "(", -5000 - at);
      fault(sixOpen + "!", -5000 - at);
      fault(sixOpen + "[", -5000 - at);
      fault(sixOpen + "u", -1001 - at);
      fault(sixOpen + "u=[", -5002 - at);
      fault(sixOpen + "u+[", -5002 - at);
      // no ( and no ! can stand in an E at all
      fault(sixOpen + "u=(", -1002 - at);
      fault(sixOpen + "u=!", -1002 - at);
      fault(sixOpen + "u[", -1001 - at);
      fault(sixOpen + "u(", -1001 - at);
    }
    fault("n([[[[[(", -1007);
    fault("n([[[[[!", -1007);

    Ask.sentence("the E of a CLAUSE stands ahead of it)");
    fault("c[[[[[[5]]]]]](0=0)", 1);
    fault("c[[[[[[[5]]]]]]](0=0)", -5007);
    fault("c5+[[[[[[5]]]]]](0=0)", 1);
    fault("c5+[[[[[[[", -5009);
    for (char sign : REST_OF_SUM.toCharArray()) {
      fault("c5" + sign + "[[[[[[5]]]]]](0=0)", 1);
      fault("c5" + sign + "[[[[[[[", -5009);
      fault("c[5" + sign + "[[[[[[", -5009);
      fault("n(5" + sign + "[[[[[5]]]]]=5" + sign + "[[[[[5]]]]])", 1);
      fault("n(5" + sign + "[[[[[[", -5009);
      fault("n(5=5" + sign + "[[[[[[", -5011);
      fault("n(!(5=[5" + sign + "[[[", -5011);
    }
    fault("c[[[[[[5]]]]]]((((((0=0))))))", 1);
    fault("c[[[[[[5]]]]]](((((((0=0)))))))", -5020);
    fault("c[[[[[[5]]]]]]*[[[[[[5]]]]]](0=0)", 1);
    price("c[[[[[[5]]]]]]*[[[[[[6]]]]]](0=0)", 30);
  }

  private static void openTillThePieceEnds() {
    Ask.sentence("a ! is open till its PIECE ends");
    fault("n(!!!!!0=0&!!!!!0=0|!!!!!0=0)", 1);
    fault("n(!!!!!0=0&(((((0=0))))))", 1);
    fault("n(!!!!!0=0&((((((0=0)))))))", -5016);
    fault("n(!!!!!0=0&!!!!!!0=0)", -5016);
    fault("n(!!!!!0=0|[[[[[[0]]]]]]=0)", -5016);
    fault("n(!!!!!0=0|[[[[[0]]]]]=0)", 1);
    // it is open all through the E behind the = , too
    fault("n(!!!!!0=[0])", -5009);
    fault("n(!!!!0=[0])", 1);
    fault("n(!!!![0]=[0])", 1);
    fault("n(!!!![[0]]=0)", -5007);
    // and all through a (C)
    fault("n(!(0=0&!(0=0&!0=0)))", 1);
    fault("n(!(0=0&!(0=0&!!0=0)))", -5015);
    fault("n(!(0=0)&!(0=0)&(((((0=0))))))", 1);
    fault("n(!(!(0=0))&!!(!(0=0)))", 1);
    fault("n(!!(!(0=0)&(0=0)))", 1);
    fault("n(!!(!(0=0)&((0=0))))", 1);
    fault("n(!!(!(0=0)&(((0=0)))))", -5014);
    price("n(!!(!(0=0)&((0=1))));c3(!!!!!0=0|!!!!0=0)", 3);
  }

  private static void placesOfFaults() {
    Ask.sentence("less its place");
    fault("x", -1000);
    fault("n(" + times("1+", 79), -1160);
    fault("n(" + times("1+", 78) + "1x", -1159);
    fault("n(" + times("1+", 76) + "123456", -2159);
    fault("n(" + times("1+", 76) + "[[[[[[", -5159);
    String padded = "n(" + times("1+", 37) + "1=1)";
    fault(padded + ";" + times("n(0=0);", 11) + "n", -4158);
    fault(padded + ";" + times("n(0=0);", 11), -1158);
    fault(padded + ";" + times("n(0=0);", 10) + "n(0=0)", 12);
  }

  private static void firstFromTheLeft() {
    Ask.sentence("FAULTS, the first from the left");
    fault("x(123456=0)", -1000);
    fault("n(123456=0", -2007);
    fault("n(x=123456)", -1002);
    fault("n(123456+((((((((", -2007);
    fault("n((((((([123456", -5007);
    fault("n((((((0=123456", -2014);
    fault(times("n(0=0);", 11) + "n(0=123456);n(0=0)", -2086);
    fault(times("n(0=0);", 12) + "n(0=123456)", -4084);
    fault(times("n(0=0);", 11) + "n(0=0;n(0=0)", -1082);
    fault("n(0=0)x" + times(";n(0=0)", 13), -1006);
    fault(times("n(0=0);", 12) + "n(((((((", -4084);
  }

  // ---- promise 7

  private static void going() {
    Ask.sentence("What one going costs along a STAIR (back: from the second to the first)");
    HillErrands x = Ask.town(40, 0, 40);
    x.stair(0, 1, 1);
    x.stair(0, 2, 1);
    x.stair(1, 0, 2);
    x.stair(1, 0, 0);
    Ask.due("a slide", x.going(0, false, 99), 0);
    Ask.due("a slide back", x.going(0, true, 99), -2);
    Ask.due("a level slide", x.going(1, false, 0), 0);
    Ask.due("a level slide back", x.going(1, true, 0), -2);
    Ask.due("a rope up", x.going(2, false, 0), 40);
    Ask.due("a rope down", x.going(2, true, 0), 0);
    Ask.due("a stair up", x.going(3, false, 0), 40);
    Ask.due("a stair down", x.going(3, true, 0), 0);
    Ask.sentence("-2: it can't be (also a slide back); NONE: no such ones.");
    Ask.due("no such STAIR", x.going(4, false, 0), -1);
    Ask.due("no such STAIR", x.going(-1, false, 0), -1);
    Ask.due("no such LOAD", x.going(2, false, 100), -1);
    Ask.due("no such LOAD", x.going(2, false, -1), -1);
    Ask.due("NONE ahead of -2", x.going(0, true, 100), -1);
    Ask.due("NONE ahead of -2", x.going(0, true, -1), -1);
    for (int odd : Ask.extremes()) {
      Ask.due("STAIR " + odd, x.going(odd, false, 0), -1);
      Ask.due("LOAD " + odd, x.going(0, false, odd), -1);
    }
    Ask.law(x, "c9(k=1);n(k=2)");
    Ask.due("no law opens a slide back", x.going(0, true, 0), -2);
    Ask.due("its price", x.going(0, false, 0), 9);
    Ask.due("forbidden", x.going(2, false, 0), -2);
    Ask.due("forbidden", x.going(2, true, 0), -2);
    Ask.due("NONE ahead of -2", x.going(2, true, 100), -1);
    Ask.due("no STAIRS", Ask.level(2).going(0, false, 0), -1);
  }
}
