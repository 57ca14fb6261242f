import java.lang.reflect.Modifier;

/** For each promise of the document: ordinary calls, the edges that it names, and wrong ones. */
public final class PromiseTests {
  private static int wrong = 0;
  private static int asked = 0;
  private static int promise = 0;

  private static void due(String call, long got, long want) {
    asked++;
    if (got != want) {
      wrong++;
      System.out.println("promise " + promise + ": " + call + " answered " + got + ", due is " + want);
    }
  }

  private static void due(String call, boolean got, boolean want) {
    due(call, got ? 1 : 0, want ? 1 : 0);
  }

  public static void main(String[] args) {
    face();
    newObject();
    place();
    stair();
    season();
    feed();
    lawFaults();
    lawTape();
    going();
    lawReckoning();
    lawRefused();
    way();
    errand();
    round();
    best();
    day();
    person();
    thing();
    brought();
    sent();
    wants();
    water();
    shops();
    shop();
    themselves();
    oneMore();
    meet();
    fare();
    seed();
    draw();
    keepAndUndo();
    check();
    count();
    System.out.println(wrong == 0 ? asked + " answers are as due" : wrong + " answers are not as due");
    if (wrong != 0) {
      System.exit(1);
    }
  }

  // ---- helpers

  private static HillErrands town(int... heights) {
    HillErrands x = new HillErrands();
    for (int height : heights) {
      x.place(height);
    }
    return x;
  }

  /** Feeds bytes and fills up the last twenty with the letter a. */
  private static void tape(HillErrands x, int... bytes) {
    for (int at = 0; at < bytes.length; at += 20) {
      int[] five = new int[5];
      for (int i = 0; i < 20; i++) {
        five[i / 4] = five[i / 4] << 8 | (at + i < bytes.length ? bytes[at + i] & 255 : 'a');
      }
      x.feed(five[0], five[1], five[2], five[3], five[4]);
    }
  }

  private static int law(HillErrands x, String text) {
    int[] bytes = new int[text.length()];
    for (int i = 0; i < bytes.length; i++) {
      bytes[i] = text.charAt(i);
    }
    tape(x, bytes);
    return x.law(bytes.length);
  }

  private static void fault(String text, int answer) {
    due("law of " + text, law(new HillErrands(), text), answer);
  }

  /** What a stair of sort 2 from 3 (height 50) to 1 (height 20), number 2, costs with load 7 in season 3. */
  private static void price(String text, int cost) {
    HillErrands x = town(0, 20, 30, 50);
    x.stair(0, 1, 0);
    x.stair(1, 2, 0);
    x.stair(3, 1, 2);
    x.season(3);
    int clauses = law(x, text);
    due("clauses of " + text + " > 0", clauses > 0, true);
    due("going by " + text, x.going(2, false, 7), cost);
  }

  private static int round(HillErrands x, int home, int... order) {
    tape(x, order);
    return x.round(home, order.length);
  }

  private static String times(String text, int n) {
    return text.repeat(n);
  }

  // ---- the face

  private static void face() {
    due("NONE", HillErrands.NONE, -1);
    due("public", Modifier.isPublic(HillErrands.class.getModifiers()), true);
    due("final", Modifier.isFinal(HillErrands.class.getModifiers()), true);
    int methods = 0;
    for (java.lang.reflect.Method m : HillErrands.class.getDeclaredMethods()) {
      methods += Modifier.isPublic(m.getModifiers()) ? 1 : 0;
      boolean hidden = Modifier.isPublic(m.getModifiers()) || Modifier.isPrivate(m.getModifiers()) || m.isSynthetic();
      due("visible " + m.getName(), hidden, true);
    }
    due("methods", methods, 31);
    due("constants", HillErrands.class.getFields().length, 1);
    due("constructors", HillErrands.class.getConstructors().length, 1);
  }

  private static void newObject() {
    promise = 1;
    HillErrands x = new HillErrands();
    for (int what = 0; what < 9; what++) {
      due("count(" + what + ")", x.count(what), 0);
    }
    due("count(9)", x.count(9), 1);
    due("count(20)", x.count(20), -1);
    due("undo()", x.undo(), false);
    due("falseFares(-1)", x.falseFares(-1), 0);
  }

  private static void place() {
    promise = 2;
    HillErrands x = new HillErrands();
    due("place(-1)", x.place(-1), -1);
    due("place(201)", x.place(201), -1);
    for (int i = 0; i < 20; i++) {
      due("place", x.place(i == 0 ? 0 : 200), i);
    }
    due("a 21st place", x.place(5), -1);
    due("count(0)", x.count(0), 20);
    due("height of 0", x.count(20), 0);
    due("height of 19", x.count(39), 200);
  }

  private static void stair() {
    promise = 3;
    HillErrands x = town(10, 10, 30);
    due("upward slide", x.stair(0, 2, 1), -1);
    due("one place twice", x.stair(1, 1, 0), -1);
    due("no such first", x.stair(-1, 1, 0), -1);
    due("no such first", x.stair(3, 1, 0), -1);
    due("no such second", x.stair(1, 3, 0), -1);
    due("no such second", x.stair(1, -1, 0), -1);
    due("no such sort", x.stair(0, 1, 3), -1);
    due("no such sort", x.stair(0, 1, -1), -1);
    due("a level slide", x.stair(0, 1, 1), 0);
    due("a slide down", x.stair(2, 0, 1), 1);
    due("a stair", x.stair(0, 2, 0), 2);
    due("the same again", x.stair(0, 2, 0), 3);
    for (int i = 4; i < 40; i++) {
      due("a rope", x.stair(i % 3, (i + 1) % 3, 2), i);
    }
    due("a 41st", x.stair(0, 1, 0), -1);
    due("count(1)", x.count(1), 40);
  }

  private static void season() {
    promise = 4;
    HillErrands x = new HillErrands();
    due("season(3)", x.season(3), true);
    due("count(4)", x.count(4), 3);
    due("season(4)", x.season(4), false);
    due("season(-1)", x.season(-1), false);
    due("count(4)", x.count(4), 3);
    due("season(0)", x.season(0), true);
    due("count(4)", x.count(4), 0);
  }

  private static void feed() {
    promise = 5;
    HillErrands x = town(0, 5);
    for (int i = 1; i <= 10; i++) {
      due("feed", x.feed(-1, -1, -1, -1, -1), 20 * i);
    }
    due("over 200", x.feed(0, 0, 0, 0, 0), -1);
    due("count(3)", x.count(3), 200);
    due("law(1)", x.law(1), -1000);
    due("count(3)", x.count(3), 0);
    // n(u= 0)xx: the highest byte first, and what is fed later stands behind
    due("feed", x.feed(0x6e28753d, 0x30297878, 0, 0, 0), 20);
    due("law(6)", x.law(6), 1);
    tape(x, times("c1(1=1);", 2).concat("c1(1").chars().toArray());
    tape(x, "=1)".chars().toArray());
    due("law(23)", x.law(23), 3);
  }

  private static void lawFaults() {
    promise = 6;
    fault("n(u=0)", 1);
    fault("c5(u=0);n(k<2|l>3&w=1)", 2);
    fault("N(u=0)", -1000);
    fault("n", -1001);
    fault("nu=0", -1001);
    fault("n()", -1002);
    fault("n(u)", -1003);
    fault("n(u", -1003);
    fault("n(u=", -1004);
    fault("n(u=0", -1005);
    fault("n(u=0))", -1006);
    fault("n(u=0);", -1007);
    fault("n(u=0);;", -1007);
    fault(" n(u=0)", -1000);
    fault("n(u= 0)", -1004);
    fault("n(u==0)", -1004);
    fault("n(u=0=0)", -1005);
    fault("n(-1=0)", -1002);
    fault("n(u)=0)", -1003);
    fault("n((u)=0)", -1004);
    fault("n([u=0])", -1004);
    fault("n([u)=0)", -1004);
    fault("n(u=0&)", -1006);
    fault("n(u=0|&)", -1006);
    fault("n(u!0)", -1003);
    fault("n(!)", -1003);
    fault("n(uu=0)", -1003);
    fault("n(u0=0)", -1003);
    fault("n(0u=0)", -1003);
    fault("n([u]0=0)", -1005);
    fault("n(u=0)n(u=0)", -1006);
    fault("c(u=0)", -1001);
    fault("c", -1001);
    fault("c5", -1002);
    fault("c5u=0)", -1002);
    fault("c5)(u=0)", -1002);
    fault("c!5(u=0)", -1001);
    fault("c5=5(u=0)", -1002);
    fault("c5|5(u=0)", -1002);
    fault("c+5(u=0)", -1001);
    fault("c5*(u=0)", -1003);
    fault("c[5(u=0)", -1003);
    fault("n(x=0)", -1002);
    fault("n(\u00ff=0)", -1002);
    fault("n(u=0)\u0000", -1006);
    fault("n(a=0)", -1002);
    // every letter and sign
    fault("cu+d-k*l/w%f+g-s*h(u<d|k>l&!w=f|(g=s&h=0))", 1);
    // digits
    fault("n(00000<99999)", 1);
    fault("n(123456=u)", -2007);
    fault("n(u=123456)", -2009);
    fault("c123456", -2006);
    fault("c12345", -1006);
    // clauses
    String twelve = times("n(u=0);", 12);
    fault(twelve.substring(0, 83), 12);
    fault(twelve, -1084);
    fault(twelve + "n", -4084);
    fault(twelve + "c", -4084);
    fault(twelve + "u", -1084);
    fault(twelve + "c123456", -4084);
    // what is open in one another
    fault("n((((((u=0))))))", 1);
    fault("n(((((((u=0)))))))", -5007);
    fault("n(!!!!!u=0)", 1);
    fault("n(!!!!!!u=0)", -5007);
    fault("n([[[[[u]]]]]=0)", 1);
    fault("n([[[[[[u]]]]]]=0)", -5007);
    fault("n(u=[[[[[[u]]]]]])", -5009);
    fault("c[[[[[[u]]]]]](u=0)", 1);
    fault("c[[[[[[[u]]]]]]](u=0)", -5007);
    fault("c[[[[[[u]]]]]]((((((u=0))))))", 1);
    fault("c[[[[[[u]]]]]](((((((u=0)))))))", -5020);
    fault("n(!(![!", -1006);
    fault("n(!(!(!", -1007);
    fault("n(!(!(![u]=0)))", -5007);
    fault("n(!(!(!u=0)))", 1);
    // a ! is open till its piece ends, not longer
    fault("n(!!!!!u=0&!!!!!u=0|!!!!!u=0)", 1);
    fault("n(!!!!!u=0&(((((u=0))))))", 1);
    fault("n(!!!!!u=0&((((((u=0)))))))", -5016);
    fault("n(!!!!!u=[u])", -5009);
    fault("n(!(u=0)&(!(!(u=0))))", 1);
    // in the E of a piece ( and ! can't stand at all
    fault("n((((((u=(", -1009);
    fault("n((((((!", -5007);
    // the first from the left
    fault("n(u=123456;", -2009);
    fault("x(u=123456)", -1000);
  }

  private static void lawTape() {
    promise = 6;
    HillErrands x = town(0, 7);
    x.stair(0, 1, 0);
    due("law(1) of an empty tape", x.law(1), -1);
    due("law", law(x, "c3(1=1)"), 1);
    due("tape is empty", x.count(3), 0);
    tape(x, "n(1=1);n(1=1)".chars().toArray());
    due("law(0)", x.law(0), -1);
    due("law(-1)", x.law(-1), -1);
    due("law(21)", x.law(21), -1);
    due("tape stays", x.count(3), 20);
    due("text stays", x.going(0, false, 0), 3);
    due("law(5)", x.law(5), -1005);
    due("tape is empty", x.count(3), 0);
    due("text stays", x.going(0, false, 0), 3);
    due("clauses stay", x.count(2), 1);
    due("law", law(x, "n(1=1);n(1=1)"), 2);
    due("text in place", x.going(0, false, 0), -2);
    due("clauses", x.count(2), 2);
    for (int i = 0; i < 10; i++) {
      x.feed(0, 0, 0, 0, 0);
    }
    due("law(161)", x.law(161), -1);
    due("law(160)", x.law(160), -1000);
    // 160 bytes are right
    String text = "n(" + times("1+", 76) + "1=077)";
    due("length", text.length(), 160);
    due("law of 160", law(x, text), 1);
    due("going", x.going(0, false, 0), -2);
  }

  private static void going() {
    promise = 7;
    HillErrands x = town(0, 40, 40);
    x.stair(0, 1, 0);
    x.stair(1, 0, 1);
    x.stair(2, 0, 2);
    due("up", x.going(0, false, 0), 40);
    due("down", x.going(0, true, 0), 0);
    due("a slide", x.going(1, false, 99), 0);
    due("a slide back", x.going(1, true, 99), -2);
    due("a rope down", x.going(2, false, 99), 0);
    due("a rope up", x.going(2, true, 99), 40);
    due("no such stair", x.going(3, false, 0), -1);
    due("no such stair", x.going(-1, false, 0), -1);
    due("no such load", x.going(0, false, -1), -1);
    due("no such load", x.going(0, false, 100), -1);
    due("no such load ahead of -2", x.going(1, true, 100), -1);
    law(x, "n(k=1);c9(1=1)");
    due("forbidden", x.going(1, false, 0), -2);
    due("allowed", x.going(0, true, 0), 9);
  }

  private static void lawReckoning() {
    promise = 7;
    // letters: from 3 to 1, heights 50 and 20, sort 2, load 7, season 3, stair 2
    price("cu(1=1)", 0);
    price("cd(1=1)", 30);
    price("ck(1=1)", 2);
    price("cl(1=1)", 7);
    price("cw(1=1)", 3);
    price("cf(1=1)", 3);
    price("cg(1=1)", 1);
    price("cs(1=1)", 2);
    price("ch(1=1)", 50);
    price("c1+2*3(1=1)", 7);
    price("c[1+2]*3(1=1)", 9);
    price("c20-5-4(1=1)", 11);
    price("c20-[5-4](1=1)", 19);
    price("c60/4*3%7(1=1)", 3);
    price("c7/2(1=1)", 3);
    price("c10+[0-7]/2(1=1)", 7);
    price("c10+[0-7]%4(1=1)", 7);
    price("c10+7%[0-4](1=1)", 13);
    // bounds
    price("c9999(1=1)", 9999);
    price("c10000(1=1)", 9999);
    price("c0-1(1=1)", 0);
    // 32 bits: 99999 * 99999 = 9999800001 = 1409865409 + 2 * 2^32
    price("n(99999*99999=14098*[99999+1]+65409);c1(1=1)", -2);
    price("c5(65536*32768<0)", 5);
    price("c65536*32768/[0-1](65536*32768=65536*32768/[0-1])", 0);
    price("c8+65536*32768%[0-1](1=1)", 8);
    // the first c of which C holds; none: steps up
    price("c1(1=2);c2(1=1);c3(1=1)", 2);
    price("c1(1=2);c2(2=1)", 0);
    price("c4(1=1);n(1=2)", 4);
    price("c4(1=1);n(1=1)", -2);
    price("n(1=1);c4(1=1)", -2);
    price("n(1=2);n(2=1);n(3=3)", -2);
    // what holds
    price("c1(1<2)", 1);
    price("c1(2<2)", 0);
    price("c1(3>2)", 1);
    price("c1(2>2)", 0);
    price("c1(1=1&1=2)", 0);
    price("c1(1=1|1=2)", 1);
    price("c1(1=2|1=1)", 1);
    price("c1(1=2&1=2|1=1)", 1);
    price("c1(1=1|1=2&1=2)", 1);
    price("c1(1=2&(1=2|1=1))", 0);
    price("c1((1=2|1=1)&1=1)", 1);
    price("c1(!1=2)", 1);
    price("c1(!1=1)", 0);
    price("c1(!!1=1)", 1);
    price("c1(!1=1|1=1)", 1);
    price("c1(!1=2&1=2)", 0);
    price("c1(!(1=2&1=2))", 1);
    price("c1(!(1=1|1=2))", 0);
    price("c1(1=2|1=2|1=1|1=2)", 1);
    price("c1(1=1&1=1&1=1&1=2|1=2)", 0);
  }

  private static void lawRefused() {
    promise = 7;
    price("c5/0(1=1)", 0);
    price("c5%0(1=1)", 0);
    price("c7+[5/0](1=1)", 0);
    price("c5/u(1=1);c6(1=1)", 0);
    price("c1(1/0=0);c2(1=1)", 2);
    price("c1(1%0=0);c2(1=1)", 2);
    price("c1(!1/0=0);c2(1=1)", 2);
    price("c1(!(1/0=0));c2(1=1)", 2);
    price("c1(1/0=0|1=1);c2(1=1)", 2);
    price("c1((1/0=0)|1=1);c2(1=1)", 2);
    price("c1(1=1|1/0=0);c2(1=1)", 1);
    price("c1(1=2&1/0=0|1=1);c2(1=1)", 1);
    price("c1(!(1=2&1/0=0));c2(1=1)", 1);
    price("c1(1=1&1/0=0|1=1);c2(1=1)", 2);
    price("c1(0*[1/0]=0);c2(1=1)", 2);
    price("n(1/0=0|1=1);c2(1=1)", 2);
    price("n(!1/0=0);c2(1=1)", 2);
    price("n(1=1|1/0=0);c2(1=1)", -2);
  }

  private static void way() {
    promise = 8;
    // two ways of like cost and like many stairs: by 1 or by 2; one of more stairs for less
    HillErrands x = town(0, 10, 10, 20, 20, 0);
    x.stair(2, 3, 0);
    x.stair(0, 2, 0);
    x.stair(1, 3, 0);
    x.stair(0, 1, 0);
    x.stair(3, 4, 2);
    x.stair(0, 4, 2);
    due("cost", x.way(0, 3, 0, -1), 20);
    due("stairs: level by 4 is as cheap", x.way(0, 3, 0, 20), 2);
    due("row", x.way(0, 3, 0, 0), 0);
    due("row", x.way(0, 3, 0, 1), 1);
    due("row", x.way(0, 3, 0, 2), 3);
    due("row's end", x.way(0, 3, 0, 3), -1);
    due("fewest stairs", x.way(0, 4, 0, 20), 1);
    due("to itself", x.way(2, 2, 0, -1), 0);
    due("to itself", x.way(2, 2, 0, 20), 0);
    due("to itself", x.way(2, 2, 0, 0), 2);
    due("to itself", x.way(2, 2, 0, 1), -1);
    due("no way", x.way(0, 5, 0, -1), -2);
    due("no way", x.way(0, 5, 0, 20), -2);
    due("-2 ahead of no such place of the way", x.way(0, 5, 0, 19), -2);
    due("no such what ahead of -2", x.way(0, 5, 0, 21), -1);
    due("no such what ahead of -2", x.way(0, 5, 0, -2), -1);
    due("no such load ahead of -2", x.way(0, 5, 100, -1), -1);
    due("no such load", x.way(0, 1, -1, -1), -1);
    due("no such place", x.way(6, 1, 0, -1), -1);
    due("no such place", x.way(1, -1, 0, -1), -1);
    due("at most 19", x.way(0, 3, 0, 19), -1);
    // ways hang on the load; cost comes ahead of stairs
    law(x, "cu*[l+1]+3*k/2(k=2);n(l>50)");
    due("with load", x.way(0, 4, 9, -1), 23);
    due("with load", x.way(0, 4, 9, 20), 3);
    due("without", x.way(0, 4, 0, -1), 23);
    due("without", x.way(0, 4, 0, 20), 1);
    due("too much", x.way(0, 4, 51, -1), -2);
    due("too much, to itself", x.way(4, 4, 51, -1), 0);
    // the row goes by numbers of places, not of stairs
    HillErrands y = town(0, 0, 0, 0, 0, 0);
    y.stair(0, 2, 0);
    y.stair(2, 3, 0);
    y.stair(0, 1, 0);
    y.stair(1, 4, 0);
    y.stair(4, 5, 0);
    y.stair(3, 5, 0);
    due("least row", y.way(0, 5, 0, 1), 1);
    due("least row", y.way(0, 5, 0, 2), 4);
    due("least row back", y.way(5, 0, 0, 1), 3);
    due("least row back", y.way(5, 0, 0, 2), 2);
    // of like stairs between the same two the cheaper one
    law(y, "c5-s(s<6);c1(s=6)");
    y.stair(0, 1, 0);
    due("cheaper stair", y.way(0, 1, 0, -1), 1);
    // twenty places in a row
    HillErrands z = new HillErrands();
    for (int i = 0; i < 20; i++) {
      z.place(10 * i);
    }
    for (int i = 1; i < 20; i++) {
      z.stair(i - 1, i, 0);
    }
    due("long way", z.way(0, 19, 0, -1), 190);
    due("long way", z.way(0, 19, 0, 20), 19);
    due("long way", z.way(0, 19, 0, 19), 19);
    law(z, "c9999(1=1)");
    due("dear way", z.way(0, 19, 0, -1), 189981);
  }

  private static void errand() {
    promise = 9;
    HillErrands x = town(0, 10);
    due("errand", x.errand(7, 1, 12, 999), true);
    due("told", x.count(5), 128);
    due("errand(8)", x.errand(8, 1, 0, 0), false);
    due("errand(-1)", x.errand(-1, 1, 0, 0), false);
    due("no such place", x.errand(0, 2, 0, 0), false);
    due("no such place", x.errand(0, -1, 0, 0), false);
    due("weight 13", x.errand(0, 1, 13, 0), false);
    due("weight -1", x.errand(0, 1, -1, 0), false);
    due("worth 1000", x.errand(0, 1, 0, 1000), false);
    due("worth -1", x.errand(0, 1, 0, -1), false);
    due("told", x.count(5), 128);
    x.stair(0, 1, 0);
    due("by 1", x.best(0, 128, -1), 10);
    due("in place", x.errand(7, 0, 0, 0), true);
    due("by 0", x.best(0, 128, -1), 0);
  }

  /** Heights 0, 10, 30; going up costs the load more; errands of weight 5 at 1, 2 at 2. */
  private static HillErrands errands() {
    HillErrands x = town(0, 10, 30);
    x.stair(0, 1, 0);
    x.stair(1, 2, 0);
    x.errand(0, 1, 5, 10);
    x.errand(1, 2, 2, 20);
    x.errand(2, 0, 9, 0);
    law(x, "cu+l(u>0)");
    return x;
  }

  private static void round() {
    promise = 10;
    HillErrands x = errands();
    // 0 to 1: 10; 1 to 2 with 5: 25; home: 0
    due("0, 1", round(x, 0, 0, 1), 35);
    due("1, 0", round(x, 0, 1, 0), 30);
    due("from 2", round(x, 2, 0), 25);
    due("from 1", round(x, 1, 2, 1), 0 + 19 + 29 + 0);
    due("all", round(x, 0, 2, 0, 1), 19 + 34);
    due("tape empty", x.count(3), 0);
    due("twice", round(x, 0, 0, 0), -3);
    due("tape empty", x.count(3), 0);
    due("not told", round(x, 0, 3), -3);
    due("no such", round(x, 0, 8), -3);
    due("no such", round(x, 0, 255), -3);
    tape(x, 0);
    due("n 0", x.round(0, 0), -1);
    due("n 9", x.round(0, 9), -1);
    due("n -1", x.round(0, -1), -1);
    due("home", x.round(3, 1), -1);
    due("home", x.round(-1, 1), -1);
    due("tape stays", x.count(3), 20);
    due("round", x.round(0, 1), 10);
    due("too few bytes", x.round(0, 1), -1);
    int lone = x.place(5);
    x.errand(3, lone, 0, 0);
    due("no way", round(x, 0, 3), -2);
    due("tape empty", x.count(3), 0);
    due("-3 ahead of -2", round(x, 0, 3, 3), -3);
    due("at home", round(x, lone, 3), 0);
    for (int i = 3; i < 8; i++) {
      x.errand(i, i % 3, 12, 0);
    }
    due("eight", round(x, 0, 0, 1, 2, 3, 4, 5, 6, 7) > 0, true);
    law(x, "n(l>17)");
    due("load of all", round(x, 0, 2, 0, 1), 30);
    due("too much", round(x, 0, 3, 0, 1), -2);
  }

  private static void best() {
    promise = 11;
    HillErrands x = errands();
    due("cost", x.best(0, 3, -1), 30);
    due("first", x.best(0, 3, 0), 1);
    due("second", x.best(0, 3, 1), 0);
    due("third", x.best(0, 3, 2), -1);
    due("separate", x.best(0, 3, 10), 10 + 30);
    due("separate with load", x.best(1, 6, 10), 20 + 19);
    due("what 9", x.best(0, 3, 9), -1);
    due("what 11", x.best(0, 3, 11), -1);
    due("what -2", x.best(0, 3, -2), -1);
    due("empty", x.best(0, 0, -1), -1);
    due("not told", x.best(0, 9, -1), -1);
    due("negative", x.best(0, -1, -1), -1);
    due("no such", x.best(0, 256 + 1, -1), -1);
    due("home", x.best(3, 1, -1), -1);
    // of like ones the least row
    x.errand(3, 1, 0, 0);
    x.errand(4, 1, 0, 0);
    due("like ones", x.best(0, 24, 0), 3);
    due("like ones", x.best(0, 24, 1), 4);
    due("like ones", x.best(0, 27, -1), 30);
    due("like ones", x.best(0, 27, 0), 1);
    due("like ones", x.best(0, 27, 1), 0);
    // 3 and 4 weigh nothing: they fit anywhere on the way, the least row puts 1 first
    due("like ones", x.best(0, 27, 2), 3);
    due("like ones", x.best(0, 26, 0), 1);
    int lone = x.place(5);
    x.errand(5, lone, 0, 0);
    due("no way", x.best(0, 33, -1), -2);
    due("no way", x.best(0, 33, 1), -2);
    due("no way", x.best(0, 33, 10), -2);
    due("NONE ahead of no way", x.best(0, 33, 2), -1);
    // a way is not there for one order, but for the other
    law(x, "n(l>4&u>0)");
    due("only one order", x.best(0, 3, -1), 30);
    due("only one order", x.best(0, 3, 0), 1);
    due("only one order", round(x, 0, 0, 1), -2);
    // separate can be though together can't
    x.errand(1, 2, 5, 0);
    x.errand(0, 1, 5, 0);
    law(x, "n(l>9)");
    due("together", x.best(0, 3, -1), -2);
    due("by itself", x.best(0, 3, 10), 40);
  }

  private static void day() {
    promise = 12;
    HillErrands x = errands();
    due("all", x.day(0, 99999, 0), 30);
    due("least set of like ones", x.day(0, 99999, 1), 3);
    due("its cost", x.day(0, 99999, 2), 30);
    due("just enough", x.day(0, 30, 0), 30);
    due("one less", x.day(0, 29, 0), 10);
    due("one less", x.day(0, 29, 1), 1);
    due("one less", x.day(0, 29, 2), 10);
    due("too little", x.day(0, 9, 0), 0);
    due("too little", x.day(0, 9, 1), 0);
    due("too little", x.day(0, 9, 2), 0);
    due("steps", x.day(0, 100000, 0), -1);
    due("steps", x.day(0, -1, 0), -1);
    due("home", x.day(3, 0, 0), -1);
    due("what", x.day(0, 0, 3), -1);
    due("what", x.day(0, 0, -1), -1);
    // like worth: least cost, then the least set
    x.errand(3, 2, 0, 10);
    x.errand(0, 1, 5, 10);
    due("like worth", x.day(0, 29, 1), 1);
    x.errand(1, 1, 0, 10);
    x.errand(3, 0, 0, 20);
    x.errand(0, 1, 0, 10);
    due("worth 40 for 10", x.day(0, 10, 0), 40);
    due("worth 40 for 10", x.day(0, 10, 1), 11);
    due("worth 20 for 0", x.day(0, 9, 1), 8);
    x.errand(3, 0, 0, 0);
    x.errand(1, 2, 0, 10);
    due("least cost ahead of least set", x.day(2, 0, 1), 2);
    x.errand(0, 2, 0, 10);
    x.errand(1, 2, 0, 0);
    due("least set", x.day(2, 0, 1), 1);
    due("no errands", town(5).day(0, 5, 1), 0);
  }

  private static void person() {
    promise = 13;
    HillErrands x = town(0, 10);
    due("from", x.person(2, 0, 0), -1);
    due("from", x.person(-1, 0, 0), -1);
    due("to", x.person(0, 2, 0), -1);
    due("to", x.person(0, -1, 0), -1);
    due("carries 100", x.person(0, 1, 100), -1);
    due("carries -1", x.person(0, 1, -1), -1);
    due("count(6)", x.count(6), 0);
    for (int i = 0; i < 8; i++) {
      due("person", x.person(0, i % 2, i == 0 ? 0 : 99), i);
    }
    due("a ninth", x.person(0, 0, 0), -1);
    due("count(6)", x.count(6), 8);
  }

  private static void thing() {
    promise = 14;
    HillErrands x = town(0, 10);
    due("thing(8)", x.thing(8, 0, 0, 0), false);
    due("thing(-1)", x.thing(-1, 0, 0, 0), false);
    due("from", x.thing(0, 2, 0, 0), false);
    due("from", x.thing(0, -1, 0, 0), false);
    due("to", x.thing(0, 0, 2, 0), false);
    due("to", x.thing(0, 0, -1, 0), false);
    due("weight 100", x.thing(0, 0, 0, 100), false);
    due("weight -1", x.thing(0, 0, 0, -1), false);
    due("count(7)", x.count(7), 0);
    due("thing", x.thing(7, 0, 1, 99), true);
    due("thing", x.thing(0, 0, 0, 0), true);
    due("count(7)", x.count(7), 129);
    x.stair(0, 1, 0);
    x.person(0, 0, 0);
    due("brought", x.brought(0, 7), 10);
    due("in place", x.thing(7, 1, 0, 0), true);
    due("brought", x.brought(0, 7), 10);
    due("in place", x.thing(7, 0, 0, 0), true);
    due("brought", x.brought(0, 7), 0);
  }

  private static void brought() {
    promise = 15;
    HillErrands x = town(0, 10, 30, 5);
    x.stair(0, 1, 0);
    x.stair(1, 2, 0);
    x.person(0, 2, 0);
    x.person(1, 0, 0);
    x.person(0, 3, 0);
    x.thing(0, 1, 2, 4);
    x.thing(1, 3, 0, 0);
    x.thing(2, 1, 0, 0);
    law(x, "cu*[l+1](u>0)");
    due("heavy", x.brought(0, 0), 10 + 100 - 30);
    due("a detour", x.brought(1, 0), 100);
    due("no way to it", x.brought(0, 1), -1000000);
    due("no own way", x.brought(2, 0), -1000000);
    due("no own way", x.brought(2, 2), -1000000);
    due("person", x.brought(3, 0), -2000000);
    due("person", x.brought(-1, 0), -2000000);
    due("thing", x.brought(0, 3), -2000000);
    due("thing", x.brought(0, 8), -2000000);
    due("thing", x.brought(0, -1), -2000000);
    due("-2000000 ahead", x.brought(2, 3), -2000000);
    // with load it is cheaper: below 0
    law(x, "cu(l=0);c1(u>0)");
    x.thing(3, 0, 2, 1);
    due("below 0", x.brought(0, 3), 2 - 30);
    // too heavy for the stair
    law(x, "n(l>3)");
    due("too heavy", x.brought(0, 0), -1000000);
    // by hand without load there is no way
    law(x, "n(l=0&g=2)");
    x.thing(4, 0, 2, 1);
    due("own way lacks", x.brought(0, 4), -1000000);
  }

  private static void sent() {
    promise = 16;
    HillErrands x = town(0, 10, 30, 5);
    x.stair(0, 1, 0);
    x.stair(1, 2, 0);
    x.thing(0, 0, 1, 0);
    x.thing(1, 1, 2, 0);
    x.thing(2, 3, 0, 0);
    due("nobody there", x.sent(3, -1), 0);
    due("nobody there", x.sent(3, 0), 8);
    due("nobody there", x.sent(3, 10), 0);
    x.person(0, 0, 0);
    due("one", x.sent(3, -1), 1);
    due("the cheaper one", x.sent(3, 10), 10);
    due("the cheaper one", x.sent(3, 0), 0);
    due("nobody", x.sent(3, 1), 8);
    x.person(1, 1, 0);
    due("two", x.sent(3, -1), 2);
    // thing 0: person 0 10, person 1 10; thing 1: person 0 30, person 1 20
    due("two", x.sent(3, 10), 30);
    due("two", x.sent(3, 0), 0);
    due("two", x.sent(3, 1), 1);
    x.person(0, 0, 0);
    due("like ones: least row", x.sent(1, 0), 0);
    due("most ahead of cost", x.sent(7, -1), 2);
    due("can't be", x.sent(7, 2), 8);
    due("can't be", x.sent(4, -1), 0);
    due("none of them", x.sent(3, 2), -2);
    due("none of them", x.sent(6, 0), -2);
    due("what 8", x.sent(3, 8), -1);
    due("what 9", x.sent(3, 9), -1);
    due("what 11", x.sent(3, 11), -1);
    due("what -2", x.sent(3, -2), -1);
    due("empty", x.sent(0, -1), -1);
    due("not told", x.sent(8, -1), -1);
    due("not told ahead of -2", x.sent(9, 1), -1);
    due("negative", x.sent(-1, -1), -1);
    // nobody stands behind all: of like ones thing 0 is sent, not thing 3
    HillErrands y = town(0, 10);
    y.stair(0, 1, 0);
    y.person(0, 0, 0);
    y.thing(0, 0, 1, 0);
    y.thing(3, 0, 1, 0);
    due("first one", y.sent(9, 0), 0);
    due("nobody", y.sent(9, 3), 8);
    due("how many", y.sent(9, -1), 1);
    // sums below 0
    law(y, "c20(l=0&u>0);c1(u>0)");
    y.thing(0, 0, 1, 1);
    y.person(0, 1, 0);
    due("below 0", y.sent(1, 10), 1 - 20);
    due("below 0", y.sent(1, 0), 1);
  }

  private static void wants() {
    promise = 17;
    HillErrands x = town(0, 10);
    due("wants", x.wants(1, 99), true);
    due("count(41)", x.count(41), 99);
    due("100", x.wants(1, 100), false);
    due("-1", x.wants(1, -1), false);
    due("place", x.wants(2, 1), false);
    due("place", x.wants(-1, 1), false);
    due("count(41)", x.count(41), 99);
    due("0", x.wants(1, 0), true);
    due("count(41)", x.count(41), 0);
    due("count(40)", x.count(40), 0);
  }

  private static void water() {
    promise = 18;
    // a row 0 - 1 - 2 - 3, and 4 for itself
    HillErrands x = town(0, 10, 20, 30, 5);
    x.stair(0, 1, 0);
    x.stair(1, 2, 0);
    x.stair(2, 3, 0);
    due("nothing", x.water(0, 0), 0);
    due("nothing", x.water(0, 1), 0);
    due("nothing", x.water(0, 2), 0);
    x.wants(0, 3);
    x.wants(2, 10);
    x.wants(3, 4);
    x.wants(4, 1);
    due("nobody", x.water(1, 0), 0);
    due("wanted", x.water(1, 1), 18);
    due("all are dry", x.water(1, 2), 1 + 4 + 8 + 16);
    x.person(0, 2, 6);
    due("behind the well", x.water(1, 0), 6);
    due("dry", x.water(1, 2), 1 + 4 + 8 + 16);
    due("the well itself", x.water(0, 0), 6);
    due("dry by one another", x.water(0, 2), 1 + 4 + 8 + 16);
    due("not on the way", x.water(3, 0), 0);
    due("other way round", x.water(2, 0), 6);
    x.person(3, 0, 9);
    // 2 has 6 by person 0 and 4 by person 1, 0 has 3 by him
    due("two", x.water(3, 0), 9);
    due("two", x.water(3, 2), 1 + 4 + 8 + 16);
    due("from 1", x.water(1, 0), 9);
    due("from 1", x.water(1, 2), 4 + 8 + 16);
    x.person(4, 4, 50);
    due("stays at the well", x.water(4, 0), 1);
    due("dry", x.water(4, 2), 1 + 4 + 8);
    x.person(4, 0, 50);
    due("no way: brings nothing", x.water(4, 0), 1);
    x.person(2, 3, 14);
    due("enough for 2 and 3", x.water(2, 0), 17);
    due("dry", x.water(2, 2), 16);
    due("well", x.water(5, 0), -1);
    due("well", x.water(-1, 0), -1);
    due("what", x.water(0, 3), -1);
    due("what", x.water(0, -1), -1);
    // just enough: nothing is dry; what wants nothing is never dry
    HillErrands y = town(0, 0);
    y.stair(0, 1, 0);
    y.wants(1, 5);
    y.person(0, 1, 5);
    due("just enough", y.water(0, 2), 0);
    y.wants(1, 6);
    due("one more", y.water(0, 2), 2);
    due("one more", y.water(0, 0), 5);
    // by the way, not by any way
    HillErrands z = town(0, 0, 0, 0);
    z.stair(0, 1, 0);
    z.stair(1, 3, 0);
    z.stair(0, 2, 0);
    z.stair(2, 3, 0);
    z.person(0, 3, 7);
    z.wants(1, 1);
    z.wants(2, 1);
    z.wants(3, 1);
    due("the least row", z.water(0, 0), 2);
    due("the least row", z.water(0, 2), 4);
    due("the least row", z.water(2, 0), 0);
  }

  private static void shops() {
    promise = 19;
    HillErrands x = town(0, 10, 30, 60, 200);
    due("no people", x.shops(1), 0);
    x.stair(0, 1, 0);
    x.stair(1, 2, 0);
    x.stair(2, 3, 0);
    x.person(0, 3, 0);
    x.person(2, 2, 0);
    due("there and back", x.shops(1), 30);
    due("there and back", x.shops(2), 10 + 20);
    due("two", x.shops(5), 0);
    due("three", x.shops(14), 10);
    due("none there", x.shops(16), 2000);
    due("one there", x.shops(17), 30);
    x.person(4, 4, 0);
    due("one is stuck", x.shops(1), 1030);
    x.stair(4, 0, 1);
    due("no way back", x.shops(1), 1030);
    due("four", x.shops(15), -1);
    due("empty", x.shops(0), -1);
    due("no such", x.shops(32), -1);
    due("negative", x.shops(-1), -1);
    // dearer than 1000 is still a way
    HillErrands y = town(0, 200);
    y.stair(0, 1, 0);
    law(y, "c700(1=1)");
    y.person(0, 0, 0);
    due("dear", y.shops(2), 1400);
  }

  private static void shop() {
    promise = 20;
    HillErrands x = town(0, 10, 30, 60);
    x.stair(0, 1, 0);
    x.stair(1, 2, 0);
    x.stair(2, 3, 0);
    due("no people", x.shop(1, -1), 0);
    due("no people", x.shop(3, 2), 2);
    x.person(1, 0, 0);
    x.person(3, 0, 0);
    x.person(2, 0, 0);
    // there and back: 1-2 20, 2-3 30, 1-3 50
    due("one", x.shop(1, -1), 50);
    due("one", x.shop(1, 0), 2);
    due("two", x.shop(2, -1), 20);
    due("two", x.shop(2, 0), 1);
    due("two", x.shop(2, 1), 3);
    due("three", x.shop(3, -1), 0);
    due("three", x.shop(3, 0), 1);
    due("three", x.shop(3, 1), 2);
    due("three", x.shop(3, 2), 3);
    due("three", x.shop(3, 3), -1);
    due("n 0", x.shop(0, -1), -1);
    due("n 4", x.shop(4, -1), -1);
    due("n -1", x.shop(-1, -1), -1);
    due("what", x.shop(1, 1), -1);
    due("what", x.shop(1, -2), -1);
    due("fewer places", town(0, 1).shop(3, -1), -1);
    due("just as many", town(0, 1).shop(2, 1), 1);
    // of like ones the least row
    HillErrands y = town(5, 5, 5);
    y.stair(0, 1, 0);
    y.stair(1, 2, 0);
    y.person(2, 0, 0);
    due("least row", y.shop(1, 0), 0);
    due("least row", y.shop(2, 1), 1);
    due("all stuck", town(0).shop(1, -1), 0);
  }

  private static void themselves() {
    promise = 21;
    // a level row 0 - 1 - 2 - 3 - 4 that costs one each, people at 0, 2, 2, 4
    HillErrands x = town(0, 0, 0, 0, 0, 0);
    for (int i = 1; i < 5; i++) {
      x.stair(i - 1, i, 0);
    }
    law(x, "c1(1=1)");
    due("no people", x.themselves(20, 2, 20), 0);
    x.person(0, 0, 0);
    x.person(2, 0, 0);
    x.person(2, 0, 0);
    x.person(4, 0, 0);
    // from 0 and 4: shop 0 moves to 1 (of 1, 2, 3 the lowest: 3 come), then shop 1 to 2 (3 come),
    // then shop 0 to 2 (all four come, of like ones to the lower number), and then shop 1 to 1 or 3
    due("0 and 4", x.themselves(0 + 20 * 4, 2, 20), -2);
    due("no such place", x.themselves(6, 2, 0), -1);
    due("no such place", x.themselves(20 * 6, 2, 0), -1);
    due("a third for two", x.themselves(400, 2, 0), -1);
    due("no such third", x.themselves(400 * 6, 3, 0), -1);
    due("too much", x.themselves(8000, 3, 0), -1);
    due("negative", x.themselves(-1, 2, 0), -1);
    due("n 1", x.themselves(0, 1, 0), -1);
    due("n 4", x.themselves(0, 4, 0), -1);
    due("what 2 of 2", x.themselves(0, 2, 2), -1);
    due("what 12 of 2", x.themselves(0, 2, 12), -1);
    due("what 3 of 3", x.themselves(0, 3, 3), -1);
    due("what 13 of 3", x.themselves(0, 3, 13), -1);
    due("what -1", x.themselves(0, 2, -1), -1);
    due("what 9", x.themselves(0, 2, 9), -1);
    due("what 19", x.themselves(0, 2, 19), -1);
    due("what 21", x.themselves(0, 2, 21), -1);
    // a stuck person comes to none; one group each side of a dear rope
    HillErrands y = town(0, 0, 0, 0, 0);
    y.stair(0, 1, 0);
    y.stair(2, 3, 0);
    law(y, "c1(1=1)");
    y.person(0, 0, 0);
    y.person(3, 0, 0);
    y.person(4, 0, 0);
    // both at 4: one comes to shop 0. It stays (1 everywhere it can have one). Shop 1 moves to 0.
    due("rounds", y.themselves(4 + 20 * 4, 2, 20), 1);
    due("stays", y.themselves(4 + 20 * 4, 2, 0), 4);
    due("lowest", y.themselves(4 + 20 * 4, 2, 1), 0);
    due("come", y.themselves(4 + 20 * 4, 2, 10), 1);
    due("come", y.themselves(4 + 20 * 4, 2, 11), 1);
    // three shops: 4, 0, and the third to 2 (the lowest by which one comes)
    due("third", y.themselves(4 + 20 * 4 + 400 * 4, 3, 2), 2);
    due("third", y.themselves(4 + 20 * 4 + 400 * 4, 3, 12), 1);
    due("third", y.themselves(4 + 20 * 4 + 400 * 4, 3, 20), 1);
    due("nothing moves", y.themselves(4 + 20 * 0 + 400 * 2, 3, 20), 0);
  }

  private static void oneMore() {
    promise = 22;
    HillErrands x = town(0, 10, 30);
    due("no people", x.oneMore(0, 2), 0);
    due("no people", x.oneMore(0, 0), 0);
    due("no people", x.oneMore(0, 1), 1);
    due("no people", x.oneMore(1, 0), 1);
    due("no people", x.oneMore(1, 1), 0);
    x.person(0, 2, 0);
    due("what it is without", x.oneMore(0, 2), 30);
    due("first", x.oneMore(0, 0), 0);
    due("second", x.oneMore(0, 1), 2);
    due("a slide is no help", x.oneMore(1, 2), 1000);
    x.person(2, 1, 0);
    due("a slide for one", x.oneMore(1, 0), 2);
    due("a slide for one", x.oneMore(1, 1), 1);
    due("a slide for one", x.oneMore(1, 2), 1000);
    due("count(1)", x.count(1), 0);
    due("sort", x.oneMore(3, 0), -1);
    due("sort", x.oneMore(-1, 0), -1);
    due("what", x.oneMore(0, 3), -1);
    due("what", x.oneMore(0, -1), -1);
    due("one place", town(0).oneMore(0, 0), -2);
    due("NONE ahead of -2", town(0).oneMore(0, 3), -1);
    // level slides go both ways round
    HillErrands y = town(5, 5);
    y.person(1, 0, 0);
    due("level", y.oneMore(1, 0), 1);
    due("level", y.oneMore(1, 1), 0);
    // the law knows the number of the stair that would be
    law(y, "c70(s=0);c3(s=1)");
    due("its number", y.oneMore(2, 2), 70);
    y.stair(0, 1, 0);
    due("its number", y.oneMore(2, 2), 3);
    // back along it, and in combination with what stands
    HillErrands z = town(0, 10, 20, 30);
    z.stair(0, 1, 0);
    z.stair(2, 3, 0);
    z.person(3, 0, 0);
    z.person(0, 3, 0);
    due("joined", z.oneMore(0, 2), 30);
    due("joined", z.oneMore(0, 0), 0);
    due("joined", z.oneMore(0, 1), 2);
    for (int i = 2; i < 40; i++) {
      z.stair(0, 1, 0);
    }
    due("40 stairs", z.oneMore(0, 0), -2);
    due("NONE ahead of -2", z.oneMore(3, 0), -1);
  }

  private static void meet() {
    promise = 23;
    // 0 - 10 - 30 - 60 in a row
    HillErrands x = town(0, 10, 30, 60, 0);
    x.stair(0, 1, 0);
    x.stair(1, 2, 0);
    x.stair(2, 3, 0);
    due("both: anywhere between, the lowest", x.meet(0, 3, 0), 0);
    due("both", x.meet(0, 3, 10), 60);
    due("both", x.meet(3, 0, 0), 0);
    due("fair", x.meet(0, 3, 1), 2);
    due("fair", x.meet(0, 3, 11), 30);
    due("with himself", x.meet(2, 2, 0), 2);
    due("with himself", x.meet(2, 2, 11), 0);
    due("nowhere", x.meet(0, 4, 0), -2);
    due("nowhere", x.meet(0, 4, 11), -2);
    x.stair(4, 0, 1);
    due("none can go back", x.meet(0, 4, 10), -2);
    due("NONE ahead of -2", x.meet(0, 4, 2), -1);
    due("place", x.meet(5, 0, 0), -1);
    due("place", x.meet(0, 5, 0), -1);
    due("place", x.meet(-1, 0, 0), -1);
    due("what", x.meet(0, 1, -1), -1);
    due("what", x.meet(0, 1, 2), -1);
    due("what", x.meet(0, 1, 9), -1);
    due("what", x.meet(0, 1, 12), -1);
    due("what", x.meet(0, 1, 20), -1);
    due("what", x.meet(0, 1, 21), -1);
  }

  private static void fare() {
    HillErrands x = town(0, 0, 0, 0, 0);
    promise = 24;
    due("one place twice", x.fare(1, 1, 0), -1);
    due("place", x.fare(5, 1, 0), -1);
    due("place", x.fare(1, -1, 0), -1);
    due("201", x.fare(0, 1, 201), -1);
    due("-201", x.fare(0, 1, -201), -1);
    due("count(8)", x.count(8), 0);
    due("fare", x.fare(0, 1, 200), 1);
    due("fare", x.fare(2, 1, -200), 2);
    promise = 25;
    due("ends", x.ends(0, 1), 200);
    due("ends", x.ends(1, 0), -200);
    due("ends", x.ends(0, 2), 400);
    due("ends", x.ends(2, 0), -400);
    due("itself", x.ends(3, 3), 0);
    due("not told", x.ends(0, 3), -1000);
    due("place", x.ends(5, 5), -1000);
    due("place", x.ends(0, -1), -1000);
    due("heights do not tell", town(0, 7).ends(0, 1), -1000);
    promise = 26;
    due("none false", x.falseFares(-1), 0);
    due("none false", x.falseFares(0), -1);
    due("false", x.fare(0, 2, 100), 3);
    due("right", x.fare(2, 0, -200), 4);
    due("false by -200, for 400 is so", x.falseFares(-1), 2);
    due("false ones", x.falseFares(0), 2);
    due("false ones", x.falseFares(1), 3);
    due("false ones", x.falseFares(2), -1);
    due("false ones", x.falseFares(-2), -1);
    due("left out", x.ends(0, 2), 400);
    due("joins", x.fare(3, 4, 1), 5);
    due("joins two groups", x.fare(4, 2, -1), 6);
    due("by all", x.ends(3, 0), -400);
    due("by all", x.ends(1, 4), 201);
    due("again", x.fare(1, 4, 201 - 1), 7);
    due("false", x.falseFares(2), 6);
    promise = 24;
    for (int i = 8; i <= 30; i++) {
      due("fare", x.fare(0, 1, i == 30 ? 0 : 200), i);
    }
    due("a 31st", x.fare(0, 1, 200), -1);
    due("count(8)", x.count(8), 30);
    promise = 26;
    due("the last is false", x.falseFares(3), 29);
    due("how many", x.falseFares(-1), 4);
  }

  private static void seed() {
    promise = 27;
    HillErrands x = new HillErrands();
    due("65535", x.seed(65535), true);
    due("count(9)", x.count(9), 65535);
    due("65536", x.seed(65536), false);
    due("-1", x.seed(-1), false);
    due("count(9)", x.count(9), 65535);
    due("0", x.seed(0), true);
    due("count(9)", x.count(9), 0);
  }

  private static void draw() {
    promise = 28;
    HillErrands x = errands();
    int lone = x.place(5);
    // X from 1: 39022 (errand 6), 61087 (7), 20196 (4), 45005 (5), 3882 (2), 21547, ...
    int[] numbers = new int[60];
    long so = 1;
    for (int i = 0; i < numbers.length; i++) {
      so = (25173 * so + 13849) % 65536;
      numbers[i] = (int) so;
    }
    due("first X", numbers[0], 39022);
    int set = 0;
    for (int i = 0; i < 20; i++) {
      int e = numbers[i] % 8;
      set ^= e < 3 ? 1 << e : 0;
    }
    due("twenty", x.draw(0, 20, 0), set);
    due("X goes on", x.count(9), numbers[19]);
    set = numbers[20] % 8 < 3 ? 1 << numbers[20] % 8 : 0;
    due("a new set", x.draw(0, 1, 0), set);
    due("X goes on", x.count(9), numbers[20]);
    due("n 0", x.draw(0, 0, 0), -1);
    due("n 21", x.draw(0, 21, 0), -1);
    due("home", x.draw(4, 1, 0), -1);
    due("home", x.draw(-1, 1, 0), -1);
    due("what", x.draw(0, 1, 2), -1);
    due("what", x.draw(0, 1, -1), -1);
    due("X stays", x.count(9), numbers[20]);
    for (int n = 1; n <= 20; n++) {
      x.seed(1);
      int drawn = x.draw(0, n, 0);
      x.seed(1);
      due("its best round", x.draw(0, n, 1), drawn == 0 ? 0 : x.best(0, drawn, -1));
      due("X", x.count(9), numbers[n - 1]);
    }
    x.errand(6, lone, 0, 0);
    x.seed(1);
    due("no way", x.draw(0, 1, 1), -2);
    due("X goes on", x.count(9), 39022);
    x.seed(1);
    due("at home", x.draw(lone, 1, 1), 0);
    x.seed(1);
    due("the set", x.draw(0, 1, 0), 64);
    due("none is told", town(0).draw(0, 20, 1), 0);
  }

  private static void keepAndUndo() {
    promise = 29;
    HillErrands x = town(0, 10);
    x.stair(0, 1, 0);
    x.season(2);
    due("keep", x.keep(), 1);
    x.stair(0, 1, 2);
    x.season(3);
    x.place(7);
    x.errand(0, 1, 0, 0);
    promise = 30;
    due("undo", x.undo(), true);
    due("stairs", x.count(1), 1);
    due("season", x.count(4), 2);
    due("places stay", x.count(0), 3);
    due("errands stay", x.count(5), 1);
    due("the fallen one", x.going(1, false, 0), -1);
    due("numbers go on", x.stair(1, 2, 2), 1);
    due("way", x.way(0, 2, 0, -1), 10);
    due("undo again", x.undo(), true);
    due("way", x.way(0, 2, 0, -1), -2);
    due("keep later", x.keep(), 1);
    x.stair(1, 2, 2);
    due("keep later", x.keep(), 2);
    due("undo", x.undo(), true);
    due("stairs", x.count(1), 2);
    due("none was kept", town(0).undo(), false);
    // none of no stairs
    HillErrands y = town(0, 1);
    due("keep none", y.keep(), 0);
    y.stair(0, 1, 0);
    due("undo", y.undo(), true);
    due("stairs", y.count(1), 0);
  }

  private static void check() {
    promise = 31;
    HillErrands x = town(0, 10, 30, 5);
    x.stair(0, 1, 0);
    x.stair(1, 2, 0);
    x.feed(0, 10, 30, -2, 0);
    due("right", x.check(0, 4), -1);
    due("tape empty", x.count(3), 0);
    x.feed(0, 10, 30, -2, 0);
    due("lacking", x.check(0, 3), 3);
    due("tape empty", x.count(3), 0);
    x.feed(0, 10, 30, -2, 0);
    due("one more than places", x.check(0, 5), 4);
    x.feed(0, 11, 31, -2, 0);
    due("the first that is not so", x.check(0, 4), 1);
    x.feed(0, 10, 30, -1, 0);
    due("there is no way", x.check(0, 4), 3);
    x.feed(0, 0, 0, -2, 0);
    due("from 2", x.check(2, 4), -1);
    x.feed(0, 10, 0x1e000000, 0, 0);
    due("four bytes", x.check(0, 4), 2);
    x.feed(0, 10, 30, -2, 0);
    due("not so many", x.check(0, 6), -2);
    due("no such place", x.check(4, 1), -2);
    due("no such place", x.check(-1, 1), -2);
    due("n -1", x.check(0, -1), -2);
    due("tape stays", x.count(3), 20);
    due("none", x.check(0, 0), 0);
    due("tape empty", x.count(3), 0);
    due("none", x.check(0, 0), 0);
    law(x, "n(l=0)");
    x.feed(-2, 0, -2, -2, 0);
    due("by the law", x.check(1, 4), -1);
  }

  private static void count() {
    promise = 32;
    HillErrands x = errands();
    x.fare(0, 1, 3);
    x.fare(0, 2, 3);
    x.person(0, 0, 0);
    x.thing(3, 0, 0, 0);
    x.season(1);
    x.wants(2, 44);
    x.feed(0, 0, 0, 0, 0);
    x.seed(77);
    int[] all = {3, 2, 1, 20, 1, 7, 1, 8, 2, 77};
    for (int what = 0; what < all.length; what++) {
      due("count(" + what + ")", x.count(what), all[what]);
    }
    for (int what = 10; what < 20; what++) {
      due("count(" + what + ")", x.count(what), -1);
    }
    due("height", x.count(20), 0);
    due("height", x.count(22), 30);
    due("height", x.count(23), -1);
    due("height", x.count(39), -1);
    due("wants", x.count(40), 0);
    due("wants", x.count(42), 44);
    due("wants", x.count(43), -1);
    due("others", x.count(59), -1);
    due("others", x.count(60), -1);
    due("others", x.count(-1), -1);
    due("others", x.count(Integer.MIN_VALUE), -1);
    due("others", x.count(Integer.MAX_VALUE), -1);
  }
}
