/**
 * Promise by promise: ordinary calls, the edges that the document names, and wrong calls with their
 * refusals in their order. What is due was worked out from the document by hand.
 */
public final class PromiseTest {
  private static final int NONE = -1;
  private static final int BAD = -102;
  private static final int OTHER = -103;
  private static final int NOTHING = -104;
  private static final int STUCK = -105;
  private static final int FULL = -106;
  private static final int HUGE = Integer.MAX_VALUE;
  private static final int LEAST = Integer.MIN_VALUE;

  private static final Checks CHECKS = new Checks("PromiseTest");

  public static void main(String[] args) {
    newObject();
    shelves();
    theTable();
    theTape();
    conditions();
    linesAndKeys();
    runsAndPlans();
    linesFound();
    conditionsAgainstOthers();
    linesTold();
    daysAndImage();
    CHECKS.end();
  }

  private static void shelves() {
    row2();
    set3();
    copy4();
    element5();
    holds6();
    show7();
    says8();
  }

  private static void theTable() {
    line9();
    alter10();
    strike11();
    price12();
  }

  private static void theTape() {
    feed13();
    wipe14();
    table15();
    tableFaults15();
    cond16();
    condOrder16();
    condFaults16();
    condRoom16();
    condDeep16();
  }

  private static void conditions() {
    test17();
    among18();
    gone19();
    columns20();
    rest21();
    several22();
    severalRefused22();
    pair23();
    turn24();
    drop25();
    condOf26();
    everyMakerIsFull();
  }

  private static void linesAndKeys() {
    lineOf27();
    keyOf28();
    truth29();
    keys30();
    lines31();
    values32();
  }

  private static void runsAndPlans() {
    runs33();
    plan35();
    of36();
    best37();
    bestIndex38();
    seek39();
    leaders40();
  }

  private static void linesFound() {
    found41();
    order42();
    behind43();
  }

  private static void conditionsAgainstOthers() {
    implies44();
    alike45();
    same46();
  }

  private static void linesTold() {
    signs47();
    judge48();
    many49();
    whatIf50();
  }

  private static void daysAndImage() {
    days51();
    seed52();
    image53();
    back54();
    status55();
    refusalsChangeNothing();
  }

  /** The place in this file tells which call it was. */
  private static void is(long got, long want) {
    int place = StackWalker.getInstance().walk(
        frames -> frames.skip(1).findFirst().get().getLineNumber());
    CHECKS.due("line " + place, got, want);
  }

  private static void feedAll(SkippingKeys x, String text) {
    for (int i = 0; i < text.length(); i++) {
      x.feed(text.charAt(i));
    }
  }

  private static int read(SkippingKeys x, String text) {
    x.wipe();
    feedAll(x, text);
    return x.cond();
  }

  private static int readTable(SkippingKeys x, String text) {
    x.wipe();
    feedAll(x, text);
    return x.table();
  }

  private static SkippingKeys withCond(String text) {
    SkippingKeys x = new SkippingKeys();
    read(x, text);
    return x;
  }

  private static void tell(SkippingKeys x, int s, int sort, long... elements) {
    x.row(s, sort, elements.length);
    for (int i = 0; i < elements.length; i++) {
      x.set(s, i, elements[i]);
    }
  }

  private static int times(SkippingKeys x, int refusal) {
    return x.status(-90 - refusal);
  }

  // ---- promises 1 to 8 ----

  private static void newObject() {
    SkippingKeys x = new SkippingKeys();
    long[] due = {0, 0, 4, 0, 0, 0, 1, 0, NONE, NONE, NONE, NONE, 0, 0, 0, 0, 0, NONE};
    for (int what = 0; what < due.length; what++) {
      is(x.status(what), due[what]);
    }
    for (int s = 0; s < 8; s++) {
      is(x.holds(s), NONE);
    }
    is(x.table(), -200);
    is(x.back(), STUCK);
  }

  private static void row2() {
    SkippingKeys x = new SkippingKeys();
    is(x.row(0, 0, 0), 1);
    is(x.row(7, 4, 40), 1);
    is(x.row(-1, 0, 1), BAD);
    is(x.row(8, 0, 1), BAD);
    is(x.row(0, -1, 1), BAD);
    is(x.row(0, 5, 1), BAD);
    is(x.row(0, 0, -1), BAD);
    is(x.row(0, 0, 41), BAD);
    is(x.row(0, 0, HUGE), BAD);
    is(times(x, BAD), 7);
    is(x.set(7, 39, 5), 1);
    is(x.element(7, 39), 1);
    is(x.row(7, 2, 40), 1);
    is(x.element(7, 39), 0);
    x.gone(0);
    x.show(3, 0);
    is(x.row(3, 1, 2), 1);
    is(x.holds(3), 1);
    is(x.set(3, 1, 9), 1);
    is(x.row(3, 1, 1), 1);
    is(x.set(3, 1, 9), BAD);
  }

  private static void set3() {
    SkippingKeys x = new SkippingKeys();
    tell(x, 0, 0, 128, 255, -129, 256);
    is(x.element(0, 0), -128);
    is(x.element(0, 1), -1);
    is(x.element(0, 2), 127);
    is(x.element(0, 3), 0);
    tell(x, 1, 1, 32768, 65535, -32769);
    is(x.element(1, 0), -32768);
    is(x.element(1, 1), -1);
    is(x.element(1, 2), 32767);
    tell(x, 2, 2, 1L << 31, (1L << 32) + 7, Long.MIN_VALUE);
    is(x.element(2, 0), LEAST);
    is(x.element(2, 1), 7);
    is(x.element(2, 2), 0);
    tell(x, 3, 3, Long.MIN_VALUE, Long.MAX_VALUE);
    is(x.element(3, 0), Long.MIN_VALUE);
    is(x.element(3, 1), Long.MAX_VALUE);
    tell(x, 4, 4, 256, -1, 0, 1L << 40);
    is(x.element(4, 0), 1);
    is(x.element(4, 1), 1);
    is(x.element(4, 2), 0);
    is(x.element(4, 3), 1);
    is(x.set(4, 0, 0), 1);
    is(x.element(4, 0), 0);
    x.gone(0);
    x.show(5, 0);
    is(x.set(-1, 0, 1), BAD);
    is(x.set(8, 0, 1), BAD);
    is(x.set(5, -1, 1), OTHER);
    is(x.set(6, -1, 1), NOTHING);
    is(x.set(4, -1, 1), BAD);
    is(x.set(4, 4, 1), BAD);
    is(x.set(4, HUGE, 1), BAD);
    is(x.set(4, LEAST, 1), BAD);
    is(times(x, BAD), 6);
    is(times(x, OTHER), 1);
    is(times(x, NOTHING), 1);
  }

  private static void copy4() {
    SkippingKeys x = new SkippingKeys();
    tell(x, 0, 2, 1, 2, 3, 4, 5);
    tell(x, 1, 2, 0, 0, 0);
    is(x.copy(0, 1, 2, 0, 3), 3);
    is(x.element(1, 0), 3);
    is(x.element(1, 2), 5);
    is(x.copy(0, 0, 0, 1, 4), 4);
    is(x.element(0, 0), 1);
    is(x.element(0, 1), 1);
    is(x.element(0, 4), 4);
    tell(x, 0, 2, 1, 2, 3, 4, 5);
    is(x.copy(0, 0, 1, 0, 4), 4);
    is(x.element(0, 0), 2);
    is(x.element(0, 3), 5);
    is(x.element(0, 4), 5);
    is(x.copy(0, 1, 5, 3, 0), 0);
    is(x.copy(0, 1, 6, 0, 0), BAD);
    is(x.copy(0, 1, 0, 4, 0), BAD);
    is(x.copy(0, 1, -1, 0, 1), BAD);
    is(x.copy(0, 1, 0, -1, 1), BAD);
    is(x.copy(0, 1, 0, 0, -1), BAD);
    is(x.copy(0, 1, 0, 0, 4), BAD);
    is(x.copy(1, 0, 0, 0, 4), BAD);
    is(x.copy(0, 1, HUGE, 0, 1), BAD);
    is(x.copy(0, 1, 1, 1, HUGE), BAD);
    is(x.copy(0, 1, 3, 0, 3), BAD);
    is(x.copy(0, 1, 5, 0, 1), BAD);
    is(x.copy(0, 1, 0, 1, 3), BAD);
    is(x.copy(0, 1, 0, 3, 1), BAD);
    is(x.copy(0, 1, 0, LEAST, LEAST), BAD);
    tell(x, 2, 1, 1, 2, 3);
    x.gone(0);
    x.show(3, 0);
    is(x.copy(-1, 3, 0, 0, 1), BAD);
    is(x.copy(3, 8, 0, 0, 1), BAD);
    is(x.copy(0, 2, -1, 0, 1), OTHER);
    is(x.copy(3, 0, 0, 0, 1), OTHER);
    is(x.copy(0, 3, 0, 0, 1), OTHER);
    is(x.copy(4, 3, 0, 0, 1), OTHER);
    is(x.copy(3, 4, 0, 0, 1), OTHER);
    is(x.copy(4, 0, -1, 0, 1), NOTHING);
    is(x.copy(0, 4, -1, 0, 1), NOTHING);
    is(x.copy(4, 5, 0, 0, 1), NOTHING);
  }

  private static void element5() {
    SkippingKeys x = new SkippingKeys();
    tell(x, 0, 3, 7, 8);
    is(x.element(0, 1), 8);
    is(x.element(0, 2), 0);
    is(x.element(0, -1), 0);
    is(x.element(0, LEAST), 0);
    is(x.element(-1, 0), 0);
    is(x.element(8, 0), 0);
    is(x.element(1, 0), 0);
    x.row(0, 3, 1);
    is(x.element(0, 1), 0);
    x.gone(0);
    x.show(0, 0);
    is(x.element(0, 0), 0);
    is(times(x, BAD), 0);
  }

  private static void holds6() {
    SkippingKeys x = new SkippingKeys();
    for (int sort = 0; sort <= 4; sort++) {
      x.row(sort, sort, 3);
      is(x.holds(sort), sort);
    }
    for (int i = 0; i < 24; i++) {
      x.gone(1);
    }
    x.show(5, 0);
    x.show(6, 23);
    is(x.holds(5), 10);
    is(x.holds(6), 33);
    is(x.holds(7), NONE);
    is(x.holds(8), NONE);
    is(x.holds(-1), NONE);
    is(times(x, BAD), 0);
  }

  private static void show7() {
    SkippingKeys x = new SkippingKeys();
    is(x.show(0, 0), BAD);
    is(x.show(0, NONE), 1);
    x.gone(0);
    is(x.show(0, 0), 1);
    is(x.show(0, 1), BAD);
    is(x.show(0, -2), BAD);
    is(x.show(-1, 0), BAD);
    is(x.show(8, NONE), BAD);
    is(x.holds(0), 10);
    is(x.show(0, NONE), 1);
    is(x.holds(0), NONE);
    x.row(0, 2, 3);
    is(x.show(0, NONE), 1);
    is(x.holds(0), NONE);
    x.row(0, 2, 3);
    is(x.show(0, 0), 1);
    is(x.holds(0), 10);
  }

  private static void says8() {
    SkippingKeys x = new SkippingKeys();
    read(x, "b<3 & (b[2 9] | c?) & b%41"); // 0 b<3, 1 among, 2 gone, 3 or, 4 and, 5 rest, 6 and
    read(x, "-+(ca>b)"); // a fault, nothing comes
    read(x, "-+(ca>25)"); // 7 several, 8 sure, 9 not
    read(x, "b~a"); // 10
    read(x, "abc=123"); // 11
    tell(x, 7, 2, 1);
    int[][] due = {
      // any, LEAF, ONE COLUMN's, PAIR, TURN, AND's PARTS, SEVERAL's columns
      {200, 1, 6, OTHER, OTHER, OTHER, OTHER},
      {200, 1, 516, OTHER, OTHER, OTHER, OTHER},
      {100, 2, 1, OTHER, OTHER, OTHER, OTHER},
      {280, OTHER, OTHER, 102, OTHER, OTHER, OTHER},
      {110, OTHER, OTHER, 3, OTHER, 2, OTHER},
      {300, 1, 546, OTHER, OTHER, OTHER, OTHER},
      {10, OTHER, OTHER, 405, OTHER, 3, OTHER},
      {740, 2, OTHER, OTHER, OTHER, OTHER, 2},
      {740, OTHER, OTHER, OTHER, 7, OTHER, OTHER},
      {260, OTHER, OTHER, OTHER, 8, OTHER, OTHER},
      {720, 1, OTHER, OTHER, OTHER, OTHER, OTHER},
      {1, 0, OTHER, OTHER, OTHER, OTHER, 3}
    };
    for (int c = 0; c < due.length; c++) {
      is(x.show(0, c), 1);
      for (int as = 0; as <= 6; as++) {
        is(x.says(0, as), due[c][as]);
      }
      is(x.says(0, -1), BAD);
      is(x.says(0, 7), BAD);
    }
    is(x.says(-1, 0), BAD);
    is(x.says(8, 0), BAD);
    is(x.says(7, 0), OTHER);
    is(x.says(7, 7), BAD);
    is(x.says(6, 0), NOTHING);
    is(x.says(6, -1), BAD);
    x.pair(6, 2, 2);
    x.show(1, 12);
    is(x.says(1, 5), 1);
    is(x.says(1, 3), 202);
  }

  // ---- promises 9 to 12 ----

  private static void line9() {
    SkippingKeys x = new SkippingKeys();
    is(x.line(10, 0, 0), BAD);
    is(x.line(0, -1, 0), BAD);
    is(x.line(0, 0, 10), BAD);
    for (int i = 0; i < 60; i++) {
      is(x.line(i % 10, 9, 0), i);
    }
    is(x.line(1, 1, 1), FULL);
    is(x.line(1, 1, 10), BAD);
    is(x.status(0), 60);
    is(x.lineOf(59, 0), 9);
    is(x.lineOf(59, 1), 9);
    is(x.lineOf(59, 2), 0);
    is(times(x, FULL), 1);
    is(times(x, BAD), 4);
  }

  private static void alter10() {
    SkippingKeys x = new SkippingKeys();
    is(x.alter(0, 0, 1), BAD);
    x.line(1, 2, 3);
    x.line(4, 5, 6);
    is(x.alter(1, 1, 0), 5);
    is(x.alter(1, 1, 9), 0);
    is(x.keyOf(1, 0), 496);
    is(x.keyOf(0, 0), 123);
    is(x.alter(2, 0, 1), BAD);
    is(x.alter(-1, 0, 1), BAD);
    is(x.alter(0, 3, 1), BAD);
    is(x.alter(0, -1, 1), BAD);
    is(x.alter(0, 0, 10), BAD);
    is(x.alter(0, 0, -1), BAD);
    is(x.keyOf(0, 0), 123);
  }

  private static void strike11() {
    SkippingKeys x = new SkippingKeys();
    is(x.strike(0), BAD);
    readTable(x, "111;222;333;444");
    is(x.strike(4), BAD);
    is(x.strike(-1), BAD);
    is(x.strike(1), 3);
    is(x.keyOf(0, 0), 111);
    is(x.keyOf(1, 0), 333);
    is(x.keyOf(2, 0), 444);
    is(x.keyOf(3, 0), BAD);
    is(x.strike(2), 2);
    is(x.strike(0), 1);
    is(x.keyOf(0, 0), 333);
    is(x.strike(0), 0);
    for (int i = 0; i < 60; i++) {
      x.line(1, 1, i % 10);
    }
    is(x.strike(0), 59);
    is(x.lineOf(58, 2), 9);
    is(x.line(2, 2, 2), 59);
  }

  private static void price12() {
    SkippingKeys x = new SkippingKeys();
    is(x.price(0), 4);
    is(x.price(20), 0);
    is(x.price(21), BAD);
    is(x.price(-1), BAD);
    is(x.price(7), 20);
    is(x.status(2), 7);
  }

  // ---- promises 13 to 16 ----

  private static void feed13() {
    SkippingKeys x = new SkippingKeys();
    is(x.feed(-1), BAD);
    is(x.feed(256), BAD);
    is(x.feed(0), 1);
    is(x.feed(255), 2);
    for (int i = 3; i <= 250; i++) {
      is(x.feed(32), i);
    }
    is(x.feed(32), FULL);
    is(x.feed(256), BAD);
    is(x.status(5), 250);
  }

  private static void wipe14() {
    SkippingKeys x = new SkippingKeys();
    is(x.wipe(), 0);
    feedAll(x, "a?");
    is(x.wipe(), 2);
    is(x.wipe(), 0);
    is(x.status(5), 0);
    is(x.feed('b'), 1);
    x.feed('?');
    is(x.cond(), 0);
    is(x.condOf(0, 3), 2);
  }

  private static void table15() {
    SkippingKeys x = new SkippingKeys();
    is(readTable(x, "9.1"), 1);
    is(x.status(5), 0);
    is(x.keyOf(0, 0), 901);
    is(readTable(x, "  1 2  3 ; 4.5;... "), 3);
    is(x.keyOf(1, 0), 123);
    is(x.keyOf(2, 0), 405);
    is(x.keyOf(3, 0), 0);
    is(x.status(0), 4);
    x.wipe();
    String sixty = "111" + ";222".repeat(59);
    is(readTable(x, sixty), FULL);
    is(x.status(5), 0);
    is(x.status(0), 4);
    SkippingKeys y = new SkippingKeys();
    is(readTable(y, sixty), 60);
    is(y.status(0), 60);
    is(readTable(y, "123"), FULL);
    is(readTable(y, "12"), -202);
    is(times(y, FULL), 1);
    is(times(y, BAD), 1);
    SkippingKeys z = new SkippingKeys();
    is(readTable(z, "111" + ";222".repeat(60)), FULL);
    is(readTable(z, "111" + ";222".repeat(61)), FULL);
    is(readTable(z, "111" + ";222".repeat(60) + "5"), -443);
    is(readTable(z, "111" + ";222".repeat(61) + ";"), -448);
    is(z.status(0), 0);
    is(readTable(z, "111" + ";222".repeat(58) + "; 3 3 3"), 60);
    is(z.keyOf(59, 0), 333);
  }

  private static void tableFaults15() {
    SkippingKeys x = new SkippingKeys();
    String[] texts = {
      "", "   ", ";", "1", "12", "123;", "123 ; ", "1234", "123;;", "103", "12-", "123,456",
      "123;45;6", "1\u000023", "1\u00ff3", "123 456", "12a", ":23", "/23", "12;"
    };
    int[] faults = {0, 3, 0, 1, 2, 4, 6, 3, 4, 1, 2, 3, 6, 1, 1, 4, 2, 0, 0, 2};
    for (int i = 0; i < texts.length; i++) {
      is(readTable(x, texts[i]), -200 - faults[i]);
      is(x.status(5), 0);
      is(times(x, BAD), i + 1);
    }
    is(x.status(0), 0);
  }

  /** KIND, x, y, SIGN of a condition, as one number. */
  private static int made(SkippingKeys x, int cond) {
    return ((x.condOf(cond, 0) * 100 + x.condOf(cond, 1) + 1) * 100 + x.condOf(cond, 2) + 1) * 10
        + x.condOf(cond, 4) + 1;
  }

  private static int made(int kind, int x, int y, int sign) {
    return ((kind * 100 + x + 1) * 100 + y + 1) * 10 + sign + 1;
  }

  private static void cond16() {
    SkippingKeys x = new SkippingKeys();
    is(read(x, "a<1"), 0);
    is(made(x, 0), made(0, NONE, NONE, 0));
    is(x.keys(0, 1), 0);
    is(read(x, " c [ 9 3 3 1 ] "), 1);
    is(made(x, 1), made(1, NONE, NONE, NONE));
    is(x.values(1, 2), 522);
    is(read(x, "b ?"), 2);
    is(made(x, 2), made(2, NONE, NONE, NONE));
    is(x.values(2, 1), 1);
    is(read(x, "a~c"), 3);
    is(made(x, 3), made(3, NONE, NONE, 3));
    is(x.truth(3, 0, 101), 0);
    is(x.truth(3, 0, 102), 1);
    is(read(x, "b%5 4"), 4);
    is(made(x, 4), made(4, NONE, NONE, NONE));
    is(x.values(4, 1), 528);
    is(read(x, "c a > 8 2"), 5);
    is(made(x, 5), made(5, NONE, NONE, 2));
    is(x.truth(5, 0, 308), 1);
    is(x.truth(5, 0, 208), 0);
    is(x.truth(5, 0, 109), 1);
    is(read(x, "b a c ~ 1 2 3"), 6);
    is(made(x, 6), made(5, NONE, NONE, 3));
    is(x.keys(6, 0), 1);
    is(x.truth(6, 0, 213), 0);
    is(read(x, "a=9"), 7);
    is(read(x, "ab=99"), 8);
    is(x.values(8, 0), 512);
    is(x.values(8, 1), 512);
    is(x.drop(), 8);
    is(x.values(7, 0), 512);
    is(read(x, "b%20"), 8);
    is(x.values(8, 1), 340);
    is(read(x, "b%98"), 9);
    is(x.values(9, 1), 256);
    is(x.status(5), 0);
  }

  private static void condOrder16() {
    SkippingKeys x = new SkippingKeys();
    is(read(x, "a?|b?&c?|a?"), 6);
    is(made(x, 3), made(6, 1, 2, NONE));
    is(made(x, 4), made(7, 0, 3, NONE));
    is(x.condOf(5, 0), 2);
    is(made(x, 6), made(7, 4, 5, NONE));
    x = new SkippingKeys();
    is(read(x, "a?&b?&c?"), 4);
    is(made(x, 2), made(6, 0, 1, NONE));
    is(made(x, 4), made(6, 2, 3, NONE));
    x = new SkippingKeys();
    is(read(x, "-a?&+b?"), 4);
    is(made(x, 1), made(8, 0, NONE, NONE));
    is(made(x, 3), made(9, 2, NONE, NONE));
    is(made(x, 4), made(6, 1, 3, NONE));
    x = new SkippingKeys();
    is(read(x, "-(a?|b?)&-+(c?)"), 7);
    is(made(x, 2), made(7, 0, 1, NONE));
    is(made(x, 3), made(8, 2, NONE, NONE));
    is(made(x, 5), made(9, 4, NONE, NONE));
    is(made(x, 6), made(8, 5, NONE, NONE));
    is(made(x, 7), made(6, 3, 6, NONE));
    is(x.status(1), 8);
    x = new SkippingKeys();
    is(read(x, "a?&(b?&c?)"), 4);
    is(made(x, 3), made(6, 1, 2, NONE));
    is(made(x, 4), made(6, 0, 3, NONE));
    is(read(x, "a?|(b?|c?)|a?"), 11);
    is(made(x, 8), made(7, 6, 7, NONE));
    is(made(x, 9), made(7, 5, 8, NONE));
    is(made(x, 11), made(7, 9, 10, NONE));
    is(read(x, "((a?))"), 12);
  }

  private static void condFaults16() {
    SkippingKeys x = new SkippingKeys();
    String[] texts = {
      "", "  ", "a", "a ", "A?", "d?", "`?", "1", "&", "|", ")", "(", "()", "(a?", "(a? ", "a?)",
      "a?(", "a?b?", "a?-", "a? 1", "-", "+-", "a?&", "a?|", "a?&&b?", "a?|&b?", "a?& )", "a<",
      "a<0", "a<d", "a<a", "a< a", "a<<1", "a<12", "a<bc", "a<b1", "b[", "b[]", "b[0]", "b[1",
      "b[1,2]", "b[1a]", "b?1", "b??", "c%", "c%1", "c%0", "c%2", "c%22", "c%9 9", "c%31 1",
      "c%a", "aa", "ab", "ab?", "ab[1]", "ab%21", "aba", "abb", "abc", "abca", "abc<", "ab<a",
      "ab<1", "ab<10", "ab<123", "abc<12", "abc<120", "abc<1234", "ab c", "a!1", "(a?&b?|c?",
      "(a?))", "((a?)|b?", "a?\u0000", "\u00e9", "a\u00ff", "a=1;b=2", "a<:", "a</", "a[:",
      "a[1:", "a[/", "c%:", "c%/", "c%2:", "c%2/", "c%9:", "ab<:", "ab<1:", "ab<1/", "ab<10",
      "b[10]", "b[9:]"
    };
    int[] faults = {
      0, 2, 1, 2, 0, 0, 0, 0, 0, 0, 0, 1, 1, 3, 4, 2,
      2, 2, 2, 3, 1, 2, 3, 3, 3, 3, 4, 2,
      2, 2, 2, 3, 2, 3, 3, 3, 2, 2, 2, 3,
      3, 3, 2, 2, 2, 2, 2, 3, 3, 4, 5,
      2, 1, 2, 2, 2, 2, 2, 2, 3, 3, 4, 3,
      4, 4, 5, 6, 6, 7, 4, 1, 9,
      4, 8, 2, 0, 1, 3, 2, 2, 2,
      3, 2, 2, 2, 3, 3, 3, 3, 4, 4, 4,
      3, 3
    };
    is(texts.length, faults.length);
    for (int i = 0; i < texts.length; i++) {
      is(read(x, texts[i]), -200 - faults[i]);
      is(x.status(5), 0);
      is(times(x, BAD), i + 1);
    }
    is(x.status(1), 0);
    is(times(x, FULL), 0);
    is(x.gone(0), 0);
  }

  private static void condRoom16() {
    SkippingKeys x = new SkippingKeys();
    is(read(x, "-".repeat(23) + "a?"), 23);
    is(x.condOf(23, 5), 23);
    is(x.keys(23, 1), 900);
    is(x.values(23, 0), 1022);
    is(read(x, "a?"), FULL);
    is(x.status(5), 0);
    is(read(x, "a?b"), -202);
    is(x.drop(), 23);
    is(read(x, "-a?"), FULL);
    is(x.status(1), 23);
    is(read(x, "a?"), 23);
    SkippingKeys y = new SkippingKeys();
    is(read(y, "-".repeat(24) + "a?"), FULL);
    is(y.status(1), 0);
    is(read(y, "a?" + "|b?".repeat(82) + "  "), FULL);
    is(read(y, "a?" + "|b?".repeat(82) + " )"), -449);
    is(read(y, "+".repeat(248) + "a?"), FULL);
    is(read(y, "+".repeat(248) + "a!"), -449);
    is(times(y, FULL), 3);
    is(times(y, BAD), 2);
    is(read(y, "a?" + "&b?".repeat(11)), 22);
    is(y.keys(22, 1), 10);
    is(read(y, "c?"), 23);
    is(y.status(1), 24);
  }

  private static void condDeep16() {
    SkippingKeys x = new SkippingKeys();
    is(read(x, "(".repeat(124) + "a?" + ")".repeat(124)), 0);
    is(read(x, "(".repeat(250)), -450);
    is(read(x, "-(".repeat(20) + "a?" + ")".repeat(20)), 21);
    is(x.condOf(21, 5), 20);
    is(read(x, "(a?|".repeat(40) + "a?" + ")".repeat(40)), FULL);
    is(read(x, "(a?&".repeat(60)), -440);
  }

  // ---- promises 17 to 26 ----

  private static void test17() {
    SkippingKeys x = new SkippingKeys();
    is(x.test(3, 0, 1), BAD);
    is(x.test(-1, 0, 1), BAD);
    is(x.test(0, 4, 1), BAD);
    is(x.test(0, -1, 1), BAD);
    is(x.test(0, 0, 0), BAD);
    is(x.test(0, 0, 10), BAD);
    is(x.test(0, 0, 4), 0);
    is(x.test(1, 1, 4), 1);
    is(x.test(2, 2, 4), 2);
    is(x.test(0, 3, 4), 3);
    is(x.test(0, 2, 9), 4);
    is(x.values(0, 0), 14);
    is(x.values(1, 1), 16);
    is(x.values(2, 2), 992);
    is(x.values(3, 0), 1006);
    is(x.keys(4, 1), 0);
    is(x.keys(0, 2), 100);
    is(x.truth(3, 0, 0), 2);
    is(x.truth(3, 0, 400), 0);
    is(x.truth(3, 0, 500), 1);
  }

  private static void among18() {
    SkippingKeys x = new SkippingKeys();
    is(x.among(3, 2), BAD);
    is(x.among(-1, 2), BAD);
    is(x.among(0, 0), BAD);
    is(x.among(0, 1), BAD);
    is(x.among(0, 3), BAD);
    is(x.among(0, 1024), BAD);
    is(x.among(0, -2), BAD);
    is(x.among(0, LEAST), BAD);
    is(x.among(2, 1022), 0);
    is(x.among(1, 514), 1);
    is(x.keys(0, 1), 900);
    is(x.keys(0, 2), 100);
    is(x.values(1, 1), 514);
    is(x.truth(1, 0, 10), 1);
    is(x.truth(1, 0, 20), 0);
    is(x.truth(1, 0, 909), 2);
  }

  private static void gone19() {
    SkippingKeys x = new SkippingKeys();
    is(x.gone(3), BAD);
    is(x.gone(-1), BAD);
    is(x.gone(1), 0);
    is(x.truth(0, 0, 909), 1);
    is(x.truth(0, 0, 990), 0);
    is(x.keys(0, 1), 100);
    is(x.keys(0, 0), 900);
  }

  private static void columns20() {
    SkippingKeys x = new SkippingKeys();
    is(x.columns(0, 0, 0), BAD);
    is(x.columns(3, 0, 0), BAD);
    is(x.columns(0, 4, 1), BAD);
    is(x.columns(0, -1, 1), BAD);
    is(x.columns(0, 0, 3), BAD);
    is(x.columns(0, 0, -1), BAD);
    is(x.columns(2, 0, 0), 0);
    is(x.columns(0, 1, 2), 1);
    is(x.columns(0, 2, 2), 2);
    is(x.columns(0, 3, 2), 3);
    is(x.truth(0, 0, 201), 1);
    is(x.truth(0, 0, 202), 0);
    is(x.truth(0, 0, 200), 2);
    is(x.truth(0, 0, 1), 2);
    is(x.truth(1, 0, 292), 1);
    is(x.truth(2, 0, 201), 1);
    is(x.truth(2, 0, 102), 0);
    is(x.truth(3, 0, 102), 1);
    is(x.truth(3, 0, 0), 2);
    is(x.keys(0, 1), 360);
    is(x.keys(1, 1), 90);
    is(x.keys(3, 2), 190);
  }

  private static void rest21() {
    SkippingKeys x = new SkippingKeys();
    is(x.rest(3, 2, 0), BAD);
    is(x.rest(0, 1, 0), BAD);
    is(x.rest(0, 10, 0), BAD);
    is(x.rest(0, 2, 2), BAD);
    is(x.rest(0, 2, -1), BAD);
    is(x.rest(0, 0, 0), BAD);
    is(x.rest(0, LEAST, 0), BAD);
    is(x.rest(0, 9, 8), 0);
    is(x.rest(1, 9, 0), 1);
    is(x.rest(2, 3, 0), 2);
    is(x.values(0, 0), 256);
    is(x.values(1, 1), 512);
    is(x.values(2, 2), 584);
    is(x.keys(2, 2), 100);
  }

  private static void several22() {
    SkippingKeys x = new SkippingKeys();
    tell(x, 0, 0, 1, 4, 0, 6, 2, 5);
    for (int sign = 0; sign < 4; sign++) {
      is(x.several(0, 3, sign), sign); // b a c, with 4 6 5
    }
    int[] keys = {399, 900, 40, 540, 600, 640, 644, 645, 646, 745, 45, 605, 604, 700, 900, 46};
    int[][] due = {
      // < = > ~
      {0, 0, 1, 1}, {2, 0, 2, 1}, {2, 2, 2, 2}, {1, 0, 0, 1}, {2, 2, 2, 2}, {2, 2, 2, 2},
      {1, 0, 0, 1}, {0, 1, 0, 0}, {0, 0, 1, 1}, {0, 0, 1, 1}, {2, 2, 2, 2}, {2, 2, 2, 2},
      {2, 0, 2, 1}, {2, 0, 2, 1}, {2, 0, 2, 1}, {2, 0, 2, 1}
    };
    for (int i = 0; i < keys.length; i++) {
      for (int sign = 0; sign < 4; sign++) {
        is(x.truth(sign, 0, keys[i]), due[i][sign]);
      }
    }
    is(x.several(0, 2, 0), 4); // b a, with 4 6
    is(x.truth(4, 0, 540), 1);
    is(x.truth(4, 0, 640), 0);
    is(x.truth(4, 0, 740), 0);
    is(x.truth(4, 0, 930), 1);
    is(x.truth(4, 0, 30), 1);
    is(x.truth(4, 0, 40), 2);
    is(x.condOf(4, 3), 3);
    is(x.condOf(3, 3), 7);
  }

  private static void severalRefused22() {
    SkippingKeys x = new SkippingKeys();
    tell(x, 0, 3, 1, 4, 0, 6, 2);
    is(x.several(-1, 2, 0), BAD);
    is(x.several(8, 2, 0), BAD);
    is(x.several(0, 1, 0), BAD);
    is(x.several(0, 4, 0), BAD);
    is(x.several(0, 2, 4), BAD);
    is(x.several(0, 2, -1), BAD);
    is(x.several(1, 2, 4), BAD);
    is(x.several(1, 2, 0), NOTHING);
    is(x.several(0, 3, 0), BAD);
    is(x.several(0, 2, 0), 0);
    x.show(2, 0);
    is(x.several(2, 2, 0), OTHER);
    is(x.several(2, 4, 0), BAD);
    tell(x, 3, 3, 3, 1, 0, 1);
    is(x.several(3, 2, 0), STUCK);
    tell(x, 3, 3, -1, 1, 0, 1);
    is(x.several(3, 2, 0), STUCK);
    tell(x, 3, 3, 1, 1, 1, 1);
    is(x.several(3, 2, 0), STUCK);
    tell(x, 3, 3, 1, 0, 2, 1);
    is(x.several(3, 2, 0), STUCK);
    tell(x, 3, 3, 1, 1, 2, 10);
    is(x.several(3, 2, 0), STUCK);
    tell(x, 3, 3, 1L << 32, 1, 2, 1);
    is(x.several(3, 2, 0), STUCK);
    tell(x, 3, 3, 1, 1, 2, (1L << 32) + 1);
    is(x.several(3, 2, 0), STUCK);
    tell(x, 3, 3, 0, 1, 1, 1, 0, 1);
    is(x.several(3, 3, 0), STUCK);
    is(x.several(3, 2, 0), 1);
    tell(x, 4, 4, 1, 1, 0, 1);
    is(x.several(4, 2, 1), 2);
    is(times(x, STUCK), 8);
    is(x.status(1), 3);
  }

  private static void pair23() {
    SkippingKeys x = new SkippingKeys();
    is(x.pair(6, 0, 0), BAD);
    x.test(0, 0, 5); // DOUBT for a 0, TRUE 1 to 4, FALSE 5 to 9
    x.test(1, 0, 5);
    is(x.pair(5, 0, 1), BAD);
    is(x.pair(8, 0, 1), BAD);
    is(x.pair(6, 2, 1), BAD);
    is(x.pair(6, 0, 2), BAD);
    is(x.pair(6, -1, 1), BAD);
    is(x.pair(6, 0, -1), BAD);
    is(x.pair(6, 0, 1), 2);
    is(x.pair(7, 0, 1), 3);
    is(x.pair(6, 0, 0), 4);
    int[] keys = {0, 10, 50, 100, 110, 150, 500, 510, 550};
    int[] and = {2, 2, 0, 2, 1, 0, 0, 0, 0};
    int[] or = {2, 1, 2, 1, 1, 1, 2, 1, 0};
    for (int i = 0; i < keys.length; i++) {
      is(x.truth(2, 0, keys[i]), and[i]);
      is(x.truth(3, 0, keys[i]), or[i]);
    }
    is(x.same(4), 0);
  }

  private static void turn24() {
    SkippingKeys x = new SkippingKeys();
    is(x.turn(8, 0), BAD);
    x.test(0, 0, 5);
    is(x.turn(7, 0), BAD);
    is(x.turn(10, 0), BAD);
    is(x.turn(8, 1), BAD);
    is(x.turn(9, -1), BAD);
    is(x.turn(8, 0), 1);
    is(x.turn(9, 0), 2);
    is(x.truth(1, 0, 0), 2);
    is(x.truth(1, 0, 400), 0);
    is(x.truth(1, 0, 500), 1);
    is(x.truth(2, 0, 0), 0);
    is(x.truth(2, 0, 400), 1);
    is(x.truth(2, 0, 500), 0);
  }

  private static void drop25() {
    SkippingKeys x = new SkippingKeys();
    is(x.drop(), STUCK);
    read(x, "a?|b?");
    x.show(0, 2);
    x.show(1, 1);
    x.show(2, 2);
    tell(x, 3, 2, 1);
    is(x.drop(), 2);
    is(x.holds(0), NONE);
    is(x.holds(1), 11);
    is(x.holds(2), NONE);
    is(x.holds(3), 2);
    is(x.truth(2, 0, 0), BAD);
    is(x.drop(), 1);
    is(x.holds(1), NONE);
    is(x.drop(), 0);
    is(x.drop(), STUCK);
    is(x.status(7), 1);
    is(x.test(2, 1, 7), 0);
    is(x.values(0, 2), 128);
    is(times(x, STUCK), 2);
  }

  private static void condOf26() {
    SkippingKeys x = new SkippingKeys();
    is(x.condOf(0, 0), BAD);
    read(x, "a=1&(b<5|-c?)&ab>13"); // 0 a=1 1 b<5 2 c? 3 not 4 or 5 and 6 several 7 and
    int[][] due = {
      // KIND x y COLUMNS SIGN deep PARTS
      {0, NONE, NONE, 1, 1, 0, 1},
      {0, NONE, NONE, 2, 0, 0, 2},
      {2, NONE, NONE, 4, NONE, 0, 4},
      {8, 2, NONE, 4, NONE, 1, 8},
      {7, 1, 3, 6, NONE, 2, 16},
      {6, 0, 4, 7, NONE, 3, 17},
      {5, NONE, NONE, 3, 2, 0, 64},
      {6, 5, 6, 7, NONE, 4, 81}
    };
    for (int c = 0; c < due.length; c++) {
      for (int what = 0; what <= 6; what++) {
        is(x.condOf(c, what), due[c][what]);
      }
    }
    is(times(x, BAD), 1);
    is(x.condOf(0, 7), BAD);
    is(x.condOf(0, -1), BAD);
    is(x.condOf(8, 0), BAD);
    is(x.condOf(-1, 0), BAD);
    x.columns(2, 3, 1);
    is(x.condOf(8, 3), 6);
    is(x.condOf(8, 4), 3);
    x.turn(9, 7);
    is(x.condOf(9, 6), 512);
    is(x.condOf(9, 5), 5);
    for (int i = 10; i < 23; i++) {
      x.gone(0);
    }
    is(x.pair(6, 22, 7), 23);
    is(x.condOf(23, 6), 4194304 + 81);
    is(x.drop(), 23);
    is(x.gone(0), 23);
    is(x.condOf(23, 6), 8388608);
  }

  private static void everyMakerIsFull() {
    SkippingKeys x = new SkippingKeys();
    for (int i = 0; i < 24; i++) {
      is(x.gone(i % 3), i);
    }
    tell(x, 0, 2, 0, 1, 1, 1);
    is(x.test(0, 0, 1), FULL);
    is(x.test(0, 0, 0), BAD);
    is(x.among(0, 2), FULL);
    is(x.among(0, 1), BAD);
    is(x.gone(0), FULL);
    is(x.gone(3), BAD);
    is(x.columns(0, 0, 1), FULL);
    is(x.columns(0, 0, 0), BAD);
    is(x.rest(0, 2, 0), FULL);
    is(x.rest(0, 2, 2), BAD);
    is(x.several(0, 2, 0), FULL);
    is(x.several(0, 3, 0), BAD);
    x.set(0, 0, 1);
    is(x.several(0, 2, 0), STUCK);
    is(x.pair(6, 0, 0), FULL);
    is(x.pair(6, 0, 24), BAD);
    is(x.turn(8, 0), FULL);
    is(x.turn(8, 24), BAD);
    is(x.status(1), 24);
    is(times(x, FULL), 8);
    is(x.condOf(23, 0), 2);
    is(x.condOf(23, 3), 4);
  }

  // ---- promises 27 to 32 ----

  private static void lineOf27() {
    SkippingKeys x = new SkippingKeys();
    is(x.lineOf(0, 0), BAD);
    x.line(1, 0, 9);
    is(x.lineOf(0, 0), 1);
    is(x.lineOf(0, 1), 0);
    is(x.lineOf(0, 2), 9);
    is(x.lineOf(0, 3), BAD);
    is(x.lineOf(0, -1), BAD);
    is(x.lineOf(1, 0), BAD);
    is(x.lineOf(-1, 0), BAD);
  }

  private static void keyOf28() {
    SkippingKeys x = new SkippingKeys();
    is(x.keyOf(0, 0), BAD);
    x.line(1, 2, 3);
    x.line(0, 0, 7);
    int[] due = {123, 132, 213, 231, 312, 321};
    int[] other = {7, 70, 7, 70, 700, 700};
    for (int index = 0; index < 6; index++) {
      is(x.keyOf(0, index), due[index]);
      is(x.keyOf(1, index), other[index]);
    }
    is(x.keyOf(0, 6), BAD);
    is(x.keyOf(0, -1), BAD);
    is(x.keyOf(2, 0), BAD);
    is(x.keyOf(-1, 0), BAD);
  }

  private static void truth29() {
    SkippingKeys x = withCond("abc=123");
    int[] due = {123, 132, 213, 231, 312, 321};
    for (int index = 0; index < 6; index++) {
      is(x.truth(0, index, due[index]), 1);
      is(x.truth(0, index, due[5 - index]), 0);
      is(x.truth(0, index, 0), 2);
      is(x.truth(0, index, 999), 0);
    }
    is(x.truth(0, 0, 1000), BAD);
    is(x.truth(0, 0, -1), BAD);
    is(x.truth(0, 6, 0), BAD);
    is(x.truth(0, -1, 0), BAD);
    is(x.truth(1, 0, 0), BAD);
    is(x.truth(-1, 0, 0), BAD);
  }

  private static void keys30() {
    SkippingKeys x = withCond("a<4&b?");
    is(x.keys(0, 0), 600);
    is(x.keys(0, 1), 300);
    is(x.keys(0, 2), 100);
    is(x.keys(2, 0), 960);
    is(x.keys(2, 1), 30);
    is(x.keys(2, 2), 10);
    is(x.keys(0, 3), BAD);
    is(x.keys(0, -1), BAD);
    is(x.keys(3, 0), BAD);
    is(x.keys(-1, 0), BAD);
  }

  private static void lines31() {
    SkippingKeys x = withCond("a<4");
    is(x.lines(0, 1), 0);
    readTable(x, "1..;3..;4..;...;.99;211");
    is(x.lines(0, 0), 1);
    is(x.lines(0, 1), 3);
    is(x.lines(0, 2), 2);
    is(x.lines(0, 3), BAD);
    is(x.lines(0, -1), BAD);
    is(x.lines(1, 0), BAD);
    is(x.lines(-1, 0), BAD);
  }

  private static void values32() {
    SkippingKeys x = withCond("a<4&b=c");
    is(x.values(2, 0), 14);
    is(x.values(2, 1), 1022);
    is(x.values(2, 2), 1022);
    is(x.values(0, 1), 1023);
    is(read(x, "a<1"), 3);
    is(x.values(3, 0), 0);
    is(x.values(3, 1), 0);
    is(read(x, "a?&b?&c?"), 8);
    is(x.values(8, 0), 1);
    is(x.values(8, 2), 1);
    is(x.values(0, 3), BAD);
    is(x.values(0, -1), BAD);
    is(x.values(9, 0), BAD);
    is(x.values(-1, 0), BAD);
  }

  // ---- promises 33 to 40 ----

  private static void runs33() {
    SkippingKeys x = withCond("b=5");
    is(x.runs(0, 0), 10);
    is(x.runs(0, 1), 100);
    is(x.runs(0, 2), 1);
    is(x.runs(0, 3), 1);
    is(x.runs(0, 4), 100);
    is(x.runs(0, 5), 10);
    is(x.run(0, 0, 0), 50059);
    is(x.run(0, 0, 9), 950959);
    is(x.run(0, 1, 0), 5005);
    is(x.run(0, 1, 99), 995995);
    is(x.run(0, 2, 0), 500599);
    is(x.run(0, 0, 10), BAD);
    is(x.run(0, 0, -1), BAD);
    is(x.run(0, 6, 0), BAD);
    is(x.run(1, 0, 0), BAD);
    is(x.runs(0, 6), BAD);
    is(x.runs(0, -1), BAD);
    is(x.runs(1, 0), BAD);
    is(x.runs(-1, 0), BAD);
    read(x, "a<1");
    is(x.runs(1, 0), 0);
    is(x.run(1, 0, 0), BAD);
    read(x, "a?|-a?"); // 2 gone, 3 gone, 4 not, 5 or
    is(x.runs(5, 0), 1);
    is(x.run(5, 0, 0), 999);
    read(x, "c%21");
    is(x.runs(6, 0), 500);
    is(x.run(6, 0, 0), 1001);
    is(x.run(6, 0, 499), 999999);
  }

  private static void plan35() {
    SkippingKeys x = withCond("c[1 2 4 7]"); // gaps of 1, 2, and 3 to the next ten
    is(x.runs(0, 0), 300);
    is(x.plan(0, 0, 40, NONE), 40);
    is(x.plan(0, 0, 1, NONE), 1);
    is(x.plan(0, 0, 1, 0), 1997);
    // 300 less 100 gaps of 1 and 100 of 2 are 100, 60 gaps of 3 less are 40
    is(x.plan(0, 0, 40, 0), 1607);
    is(x.plan(0, 0, 40, 1), 611617);
    is(x.plan(0, 0, 40, 39), 991997);
    is(x.plan(0, 0, 40, 40), BAD);
    is(x.plan(0, 0, 39, 0), 1617);
    is(x.plan(0, 0, 39, 1), 621627);
    is(x.plan(0, 0, 0, NONE), BAD);
    is(x.plan(0, 0, 41, NONE), BAD);
    is(x.plan(0, 0, 1, -2), BAD);
    is(x.plan(0, 0, 1, 1), BAD);
    is(x.plan(0, 6, 1, 0), BAD);
    is(x.plan(1, 0, 1, 0), BAD);
    is(x.plan(-1, 0, 1, 0), BAD);
    read(x, "a[1 3 9]&b?"); // 100-109, 300-309, 900-909
    is(x.plan(3, 0, 3, NONE), 3);
    is(x.plan(3, 0, 40, NONE), 3);
    is(x.plan(3, 0, 40, 1), 300309);
    is(x.plan(3, 0, 2, 0), 100309);
    is(x.plan(3, 0, 2, 1), 900909);
    is(x.plan(3, 0, 1, 0), 100909);
    read(x, "a[1 2 3 4]&b?"); // gaps alike: the first two are joined
    is(x.plan(6, 0, 3, 0), 100209);
    is(x.plan(6, 0, 3, 1), 300309);
    is(x.plan(6, 0, 2, 0), 100309);
    is(x.plan(6, 0, 2, 1), 400409);
    read(x, "a<1");
    is(x.plan(7, 0, 1, NONE), 0);
    is(x.plan(7, 0, 1, 0), BAD);
  }

  private static void of36() {
    SkippingKeys x = withCond("a[1 3 9]&b?"); // 0 among, 1 gone, 2 and: 100-109, 300-309, 900-909
    readTable(x, "1.1;155;155;3.9;311;8..;9.9;91.;...;2..");
    int[][] due = {
      // for n 1, 2, 3, 4: KEYS more, READ, FALL, COST, STILL
      {780, 8, 5, 12, 3}, {190, 6, 3, 14, 3}, {0, 3, 0, 15, 0}, {0, 3, 0, 15, 0}
    };
    for (int n = 1; n <= 4; n++) {
      for (int what = 0; what <= 4; what++) {
        is(x.of(2, 0, n, what), due[n - 1][what]);
      }
    }
    x.price(0);
    is(x.of(2, 0, 3, 3), 3);
    x.price(20);
    is(x.of(2, 0, 40, 3), 63);
    is(x.of(2, 2, 1, 4), 1); // bac: 010 to 099 is all of b MISSING
    is(x.of(2, 2, 1, 0), 60);
    is(x.of(2, 2, 1, 1), 5);
    is(x.of(2, 2, 1, 2), 2);
    read(x, "a=1&a<1"); // 3, 4, 5: never TRUE
    for (int what = 0; what <= 4; what++) {
      is(x.of(5, 0, 1, what), 0);
    }
    read(x, "-(a=1)"); // 6, 7
    is(x.of(7, 0, 1, 4), 0);
    is(x.of(7, 3, 1, 4), 128);
    is(x.of(2, 0, 0, 0), BAD);
    is(x.of(2, 0, 41, 0), BAD);
    is(x.of(2, 0, 1, 5), BAD);
    is(x.of(2, 0, 1, -1), BAD);
    is(x.of(2, 6, 1, 0), BAD);
    is(x.of(2, -1, 1, 0), BAD);
    is(x.of(8, 0, 1, 0), BAD);
    is(x.of(-1, 0, 1, 0), BAD);
  }

  private static void best37() {
    SkippingKeys x = withCond("a[1 3 9]&b?");
    is(x.best(2, 0, 0), 1);
    is(x.best(2, 0, 1), 4);
    readTable(x, "5..;5..;5..;5..");
    is(x.best(2, 0, 0), 1); // n 1: 4 + 4, n 2: 8 + 0: of several the least n
    is(x.best(2, 0, 1), 8);
    x.line(3, 9, 9);
    is(x.best(2, 0, 0), 2); // n 1: 4 + 5, n 2: 8 + 0, n 3: 12 + 0
    is(x.best(2, 0, 1), 8);
    readTable(x, "155;155;155;155;155");
    is(x.best(2, 0, 0), 3); // n 1: 4 + 10, n 2: 8 + 5, n 3: 12 + 0
    is(x.best(2, 0, 1), 12);
    x.line(1, 0, 0);
    is(x.best(2, 0, 1), 13);
    x.price(0);
    is(x.best(2, 0, 0), 3);
    is(x.best(2, 0, 1), 1);
    x.price(20);
    is(x.best(2, 0, 0), 1);
    is(x.best(2, 0, 1), 31);
    is(x.best(2, 0, 2), BAD);
    is(x.best(2, 0, -1), BAD);
    is(x.best(2, 6, 0), BAD);
    is(x.best(2, -1, 0), BAD);
    is(x.best(3, 0, 0), BAD);
    is(x.best(-1, 0, 0), BAD);
    x.price(4);
    is(x.best(2, 0, 0), 3);
    read(x, "a<1");
    is(x.best(3, 0, 0), 1);
    is(x.best(3, 0, 1), 0);
    bestOfManyRuns();
  }

  /** Forty spans are the most, even if more would cost less. */
  private static void bestOfManyRuns() {
    SkippingKeys x = withCond("c=1"); // 100 runs, all gaps alike: the first 60 of 99 are joined
    x.price(0);
    for (int i = 0; i < 9; i++) {
      x.line(5, i, 5); // 505 to 585: gaps 50 to 58, joined by any n up to 40
    }
    x.line(6, 3, 5); // 635: gap 63, joined as the 64th, by 36 or less
    is(x.best(0, 0, 1), 9);
    is(x.best(0, 0, 0), 37);
    is(x.of(0, 0, 37, 1), 9);
    is(x.of(0, 0, 36, 1), 10);
    x.strike(9);
    is(x.best(0, 0, 0), 1);
    is(x.best(0, 0, 1), 9);
    x.line(6, 0, 5); // 605: gap 60, joined as the 61st, by 39 or less
    is(x.best(0, 0, 0), 40);
    is(x.best(0, 0, 1), 9);
    x.line(5, 9, 5); // 595: gap 59, joined by any n
    is(x.best(0, 0, 0), 40);
    is(x.best(0, 0, 1), 10);
  }

  private static void bestIndex38() {
    SkippingKeys x = withCond("b=5");
    is(x.bestIndex(0, 0), 0);
    is(x.bestIndex(0, 1), 4);
    x.line(3, 4, 4);
    is(x.bestIndex(0, 0), 2); // by one span of abc or acb it would be read
    is(x.bestIndex(0, 1), 4);
    is(x.best(0, 0, 1), 5);
    is(x.best(0, 2, 1), 4);
    x.line(3, 5, 4);
    is(x.bestIndex(0, 1), 5);
    is(x.bestIndex(0, 2), BAD);
    is(x.bestIndex(0, -1), BAD);
    is(x.bestIndex(1, 0), BAD);
    is(x.bestIndex(-1, 0), BAD);
    read(x, "b<1");
    is(x.bestIndex(1, 0), 0);
    is(x.bestIndex(1, 1), 0);
    x.price(0);
    is(x.bestIndex(0, 0), 0); // spans for nothing: abc reads just what it must
    is(x.bestIndex(0, 1), 1);
    is(x.best(0, 0, 0), 8); // of nine gaps alike the first two may be joined, not the third
    is(x.best(0, 4, 0), 1); // its gap is the 43rd of 99: it's joined by any n
    is(x.best(0, 4, 1), 2);
  }

  private static void seek39() {
    SkippingKeys x = withCond("b=5");
    is(x.seek(0, 0, 0, 0), 50);
    is(x.seek(0, 0, 50, 0), 50);
    is(x.seek(0, 0, 59, 0), 59);
    is(x.seek(0, 0, 60, 0), 150);
    is(x.seek(0, 0, 959, 0), 959);
    is(x.seek(0, 0, 960, 0), NONE);
    is(x.seek(0, 0, HUGE, 0), NONE);
    is(x.seek(0, 0, LEAST, 0), 50);
    is(x.seek(0, 0, HUGE, 1), 959);
    is(x.seek(0, 0, 1000, 1), 959);
    is(x.seek(0, 0, 60, 1), 59);
    is(x.seek(0, 0, 49, 1), NONE);
    is(x.seek(0, 0, 50, 1), 50);
    is(x.seek(0, 0, LEAST, 1), NONE);
    is(x.seek(0, 2, 0, 0), 500);
    is(x.seek(0, 4, 7, 0), 15);
    is(x.seek(0, 2, 600, 1), 599);
    x.gone(2); // TRUE for the least key of most indexes, and for the greatest of none
    is(x.seek(1, 0, 0, 0), 0);
    is(x.seek(1, 0, LEAST, 0), 0);
    is(x.seek(1, 0, 1, 0), 10);
    is(x.seek(1, 0, 9, 1), 0);
    is(x.seek(1, 0, 0, 1), 0);
    is(x.seek(1, 0, -1, 1), NONE);
    x.test(2, 1, 9);
    is(x.seek(2, 0, 999, 0), 999);
    is(x.seek(2, 0, 999, 1), 999);
    is(x.seek(2, 0, 998, 1), 989);
    is(x.seek(2, 4, 898, 1), NONE);
    is(times(x, BAD), 0);
    is(x.seek(0, 0, 0, 2), BAD);
    is(x.seek(0, 0, 0, -1), BAD);
    is(x.seek(0, 6, 0, 0), BAD);
    is(x.seek(0, -1, 0, 0), BAD);
    is(x.seek(3, 0, 0, 0), BAD);
    is(x.seek(-1, 0, 0, 0), BAD);
  }

  private static void leaders40() {
    SkippingKeys x = withCond("b=5&a<4");
    is(x.leaders(2, 0, 1, 0), 3);
    is(x.leaders(2, 0, 2, 0), 3);
    is(x.leaders(2, 1, 1, 0), 3);
    is(x.leaders(2, 1, 2, 0), 30);
    is(x.leaders(2, 4, 1, 0), 10);
    is(x.leaders(2, 0, 1, 1), 0);
    readTable(x, "151;152;351;451;.51;161");
    is(x.leaders(2, 0, 1, 1), 2);
    is(x.leaders(2, 2, 1, 1), 1);
    is(x.leaders(2, 2, 2, 1), 2);
    is(x.leaders(2, 1, 2, 1), 3);
    is(x.leaders(0, 0, 1, 1), 4);
    x.line(0, 0, 0);
    is(x.leaders(2, 0, 1, 1), 2);
    is(read(x, "a?&b?&c?"), 7);
    is(x.leaders(7, 0, 1, 0), 1);
    is(x.leaders(7, 5, 2, 1), 1);
    is(read(x, "abc=999|a=1&bc=99"), 12);
    is(x.leaders(12, 0, 1, 0), 2);
    is(x.leaders(12, 0, 2, 0), 2);
    is(x.leaders(12, 2, 1, 0), 1);
    is(x.leaders(12, 2, 2, 0), 2);
    is(x.leaders(12, 3, 2, 0), 1);
    is(x.leaders(2, 0, 0, 0), BAD);
    is(x.leaders(2, 0, 3, 0), BAD);
    is(x.leaders(2, 0, 1, 2), BAD);
    is(x.leaders(2, 0, 1, -1), BAD);
    is(x.leaders(2, 6, 1, 0), BAD);
    is(x.leaders(13, 0, 1, 0), BAD);
    is(x.leaders(-1, 0, 1, 0), BAD);
  }

  // ---- promises 41 to 43 ----

  /** Lines 0 to 6; a condition that is not TRUE for lines 3 and 6. */
  private static SkippingKeys withLines() {
    SkippingKeys x = withCond("a<9");
    readTable(x, "312;121;312;911;112;211;.12");
    return x;
  }

  private static void found41() {
    SkippingKeys x = withLines();
    is(x.found(0, 0, NONE), 5);
    int[] abc = {4, 1, 5, 0, 2};
    int[] cba = {5, 1, 4, 0, 2};
    for (int i = 0; i < 5; i++) {
      is(x.found(0, 0, i), abc[i]);
      is(x.found(0, 5, i), cba[i]);
    }
    is(x.found(0, 0, 5), BAD);
    is(x.found(0, 0, -2), BAD);
    is(x.found(0, 6, 0), BAD);
    is(x.found(0, -1, 0), BAD);
    is(x.found(1, 0, 0), BAD);
    is(x.found(-1, 0, 0), BAD);
    x.gone(1);
    is(x.found(1, 0, NONE), 0);
    is(x.found(1, 0, 0), BAD);
  }

  private static void order42() {
    SkippingKeys x = withLines(); // keys in abc: 312 121 312 - 112 211 -
    int[][] due = {{4, 1, 5, 0, 2}, {5, 4, 0, 2, 1}, {1, 5, 4, 0, 2}};
    for (int k = 0; k <= 2; k++) {
      for (int i = 0; i < 5; i++) {
        is(x.order(0, 0, k, i), due[k][i]);
      }
      is(x.order(0, 0, k, 5), BAD);
      is(x.order(0, 0, k, NONE), BAD);
    }
    is(x.order(0, 0, 3, 0), BAD);
    is(x.order(0, 0, -1, 0), BAD);
    is(x.order(0, 6, 0, 0), BAD);
    is(x.order(1, 0, 0, 0), BAD);
    is(x.order(-1, 0, 0, 0), BAD);
  }

  private static void behind43() {
    SkippingKeys x = withLines();
    int[] due = {2, 5, NONE, NONE, 1, 0, 4};
    for (int line = 0; line < 7; line++) {
      is(x.behind(0, 0, line), due[line]);
    }
    x.alter(6, 0, 3); // the same key as 0 and 2, and no less number
    is(x.behind(0, 0, 6), NONE);
    is(x.behind(0, 0, 2), 6);
    x.alter(2, 0, 0);
    is(x.behind(0, 0, 2), 4);
    is(x.behind(0, 0, 0), 6);
    is(times(x, BAD), 0);
    is(x.behind(0, 0, 7), BAD);
    is(x.behind(0, 0, -1), BAD);
    is(x.behind(0, 6, 0), BAD);
    is(x.behind(1, 0, 0), BAD);
    is(x.behind(-1, 0, 0), BAD);
  }

  // ---- promises 44 to 46 ----

  private static void implies44() {
    SkippingKeys x = withCond("a<4&b?"); // 0, 1, 2
    is(x.implies(2, 0), NONE);
    is(x.implies(2, 1), NONE);
    is(x.implies(0, 2), 110);
    is(x.implies(1, 0), 0);
    is(x.implies(0, 0), NONE);
    is(times(x, BAD), 0);
    is(x.implies(0, 3), BAD);
    is(x.implies(3, 0), BAD);
    is(x.implies(-1, 0), BAD);
    is(x.implies(0, -1), BAD);
  }

  private static void alike45() {
    SkippingKeys x = withCond("+a<4|a<4"); // 0 test, 1 sure, 2 test, 3 or
    is(x.alike(0, 1), 0);
    is(x.alike(0, 2), NONE);
    is(x.alike(0, 3), NONE);
    read(x, "a<5"); // 4
    is(x.alike(0, 4), 400);
    is(x.alike(4, 0), 400);
    is(x.alike(0, 0), NONE);
    is(read(x, "a?&b?&c?"), 9);
    is(read(x, "+a<1"), 11);
    is(x.alike(9, 11), 0); // just there
    is(read(x, "abc=999"), 12);
    is(read(x, "+abc=999"), 14);
    is(read(x, "+abc>998"), 16);
    is(x.alike(14, 16), NONE);
    is(x.alike(16, 11), 999);
    is(x.implies(14, 11), 999);
    is(times(x, BAD), 0);
    is(x.alike(0, 17), BAD);
    is(x.alike(17, 0), BAD);
    is(x.alike(-1, 0), BAD);
    is(x.alike(0, -1), BAD);
  }

  private static void same46() {
    SkippingKeys x = withCond("+a<4|a<4");
    is(x.same(0), 0);
    is(x.same(1), 1);
    is(x.same(2), 0);
    is(x.same(3), 0);
    read(x, "++a[1 2 3]"); // 4 among, 5, 6
    is(x.same(4), 0);
    is(x.same(5), 1);
    is(x.same(6), 1);
    is(x.same(7), BAD);
    is(x.same(-1), BAD);
  }

  // ---- promises 47 to 50 ----

  private static void signs47() {
    SkippingKeys x = new SkippingKeys();
    readTable(x, "3..;5..;7..;...");
    x.row(0, 3, 0);
    is(x.signs(0, 5, 0, 0), 15);
    tell(x, 0, 3, 0, 1);
    is(x.signs(0, 5, 0, 1), 9);
    tell(x, 0, 3, 0, 1, 1, 0, 2, 0, 9, 9);
    is(x.signs(0, 5, 0, 1), 9);
    is(x.signs(0, 5, 0, 3), 1);
    is(x.signs(0, 6, 0, 3), 0);
    is(x.signs(0, 5, 0, 4), STUCK);
    is(x.signs(0, 5, 0, 5), BAD);
    tell(x, 0, 3, 1, 1, 2, 0);
    is(x.signs(0, 5, 0, 2), 2);
    tell(x, 0, 3, 2, 1, 0, 0, 3, 0);
    is(x.signs(0, 5, 0, 3), 4);
    tell(x, 0, 3, 3, 0);
    is(x.signs(0, 5, 0, 1), 15);
    tell(x, 0, 3, 3, 1);
    is(x.signs(0, 5, 0, 1), 0);
    tell(x, 0, 3, 0, 1, 0, 0);
    is(x.signs(0, 5, 0, 2), 0);
    is(x.signs(3, 5, 0, 1), BAD);
    is(x.signs(-1, 5, 0, 1), BAD);
    is(x.signs(0, 0, 0, 1), BAD);
    is(x.signs(0, 10, 0, 1), BAD);
    is(x.signs(0, 5, -1, 1), BAD);
    is(x.signs(0, 5, 8, 1), BAD);
    is(x.signs(0, 5, 0, -1), BAD);
    is(x.signs(0, 5, 0, 21), BAD);
    is(x.signs(0, 5, 0, 3), BAD);
    is(x.signs(0, 5, 1, 0), NOTHING);
    is(x.signs(0, 5, 1, 21), BAD);
    x.gone(0);
    x.show(1, 0);
    is(x.signs(0, 5, 1, 20), OTHER);
    long[][] stuck = {{4, 1}, {-1, 1}, {0, 2}, {0, -1}, {1L << 32, 1}, {0, (1L << 32) + 1}};
    for (long[] elements : stuck) {
      tell(x, 0, 3, elements);
      is(x.signs(0, 5, 0, 1), STUCK);
    }
    tell(x, 2, 3, 0, 1, 1, 0, 2, 2, 0, 0);
    is(x.signs(0, 5, 2, 2), 9);
    is(x.signs(0, 5, 2, 3), STUCK);
    x.row(2, 3, 40);
    is(x.signs(0, 3, 2, 20), 13);
    x.row(2, 3, 39);
    is(x.signs(0, 3, 2, 20), BAD);
  }

  private static void judge48() {
    SkippingKeys x = withLines(); // found in abc: 4 1 5 0 2
    tell(x, 0, 2, 4, 1, 5, 0, 2, 7);
    is(x.judge(0, 0, 0, 5), NONE);
    is(x.judge(0, 0, 0, 6), 5);
    is(x.judge(0, 0, 0, 4), 4);
    is(x.judge(0, 0, 0, 0), 0);
    is(x.judge(0, 5, 0, 5), 0);
    x.set(0, 2, 0);
    is(x.judge(0, 0, 0, 5), 2);
    is(x.judge(0, 0, 0, 2), 2);
    tell(x, 1, 3, 4, 1 + (1L << 32));
    is(x.judge(0, 0, 1, 2), 1);
    tell(x, 1, 3, 4, -1);
    is(x.judge(0, 0, 1, 2), 1);
    is(times(x, BAD), 0);
    is(x.judge(0, 0, 1, 3), BAD);
    is(x.judge(0, 0, 1, -1), BAD);
    is(x.judge(0, 0, 1, 41), BAD);
    is(x.judge(0, 0, -1, 1), BAD);
    is(x.judge(0, 0, 8, 1), BAD);
    is(x.judge(0, 6, 1, 1), BAD);
    is(x.judge(1, 0, 1, 1), BAD);
    is(x.judge(0, 0, 2, 1), NOTHING);
    is(x.judge(0, 0, 2, 41), BAD);
    x.show(2, 0);
    is(x.judge(0, 0, 2, 1), OTHER);
    x.test(0, 2, 9);
    x.row(3, 2, 0);
    is(x.judge(1, 0, 3, 0), NONE);
  }

  private static void many49() {
    SkippingKeys x = new SkippingKeys();
    is(x.many(0, 0), 0);
    readTable(x, "1.1;1..;91.");
    is(x.many(0, 1), 2);
    is(x.many(0, 9), 1);
    is(x.many(1, 0), 2);
    is(x.many(2, 0), 2);
    is(x.many(2, 1), 1);
    is(x.many(2, 10), BAD);
    is(x.many(2, -1), BAD);
    is(x.many(3, 0), BAD);
    is(x.many(-1, 0), BAD);
  }

  private static void whatIf50() {
    SkippingKeys x = withLines();
    is(x.whatIf(0, 3, 0, 8), 6);
    is(x.whatIf(0, 3, 0, 9), 5);
    is(x.whatIf(0, 0, 0, 0), 4);
    is(x.whatIf(0, 6, 0, 1), 6);
    is(x.whatIf(0, 0, 1, 0), 5);
    is(x.keyOf(0, 0), 312);
    is(x.keyOf(3, 0), 911);
    is(x.lines(0, 1), 5);
    is(x.whatIf(1, 0, 0, 0), BAD);
    is(x.whatIf(-1, 0, 0, 0), BAD);
    is(x.whatIf(0, 7, 0, 0), BAD);
    is(x.whatIf(0, -1, 0, 0), BAD);
    is(x.whatIf(0, 0, 3, 0), BAD);
    is(x.whatIf(0, 0, -1, 0), BAD);
    is(x.whatIf(0, 0, 0, 10), BAD);
    is(x.whatIf(0, 0, 0, -1), BAD);
  }

  // ---- promises 51 to 55 ----

  private static void days51() {
    SkippingKeys x = new SkippingKeys();
    is(x.days(0), BAD);
    is(x.days(61), BAD);
    is(x.days(-1), BAD);
    is(x.status(6), 1);
    // the draws 16838 38526 10113: a line 8 6 3; 50283 modulo 8 is 3: none is struck
    is(x.days(1), 1);
    is(x.keyOf(0, 0), 863);
    is(x.status(6), -999580867);
    SkippingKeys y = new SkippingKeys();
    for (int i = 0; i < 60; i++) {
      y.line(1, 2, i % 10);
    }
    y.seed(-999580867);
    // 63819 38395 55778: 9 5 8, 40187 modulo 60 is 47, and 48980 modulo 8 is 4
    is(y.days(1), 60);
    is(y.keyOf(47, 0), 958);
    is(y.many(0, 1), 59);
    is(y.status(6), -1084965762);
    y.seed(11); // 9 4 1 for line 8, then line 10 is struck
    is(y.days(1), 59);
    is(y.keyOf(8, 0), 941);
    is(y.keyOf(9, 0), 129);
    is(y.keyOf(10, 0), 121);
    is(y.status(6), -594090947);
    SkippingKeys z = new SkippingKeys();
    readTable(z, "111;222;333");
    z.seed(3); // 5 7 5, then line 2 of 4 is struck
    is(z.days(1), 3);
    is(z.keyOf(1, 0), 222);
    is(z.keyOf(2, 0), 575);
    is(z.status(6), -795971668);
    z.seed(-2); // 9 8 4, then line 0 of 4 is struck
    is(z.days(1), 3);
    is(z.keyOf(0, 0), 222);
    is(z.keyOf(2, 0), 984);
    SkippingKeys one = new SkippingKeys();
    SkippingKeys many = new SkippingKeys();
    for (int i = 0; i < 60; i++) {
      one.days(1);
    }
    is(many.days(60), one.status(0));
    is(many.status(6), one.status(6));
  }

  private static void seed52() {
    SkippingKeys x = new SkippingKeys();
    is(x.seed(LEAST), 1);
    is(x.seed(HUGE), LEAST);
    is(x.seed(-102), HUGE);
    is(x.seed(1), -102);
    is(x.status(6), 1);
    is(times(x, BAD), 0);
  }

  private static void image53() {
    SkippingKeys x = new SkippingKeys();
    is(x.back(), STUCK);
    readTable(x, "123;456");
    read(x, "a=1|bc>23");
    x.price(7);
    x.seed(99);
    x.show(0, 0);
    x.show(1, 2);
    tell(x, 2, 2, 5);
    is(x.image(), 1);
    x.strike(0);
    x.alter(0, 0, 0);
    x.line(9, 9, 9);
    x.line(8, 8, 8);
    x.price(1);
    x.seed(5);
    x.drop();
    x.drop();
    x.gone(0);
    x.gone(0);
    x.turn(8, 2);
    x.turn(9, 3);
    x.show(3, 4);
    x.show(4, 2);
    x.set(2, 0, 6);
    x.feed('a');
    is(x.back(), 1);
    is(x.status(0), 2);
    is(x.keyOf(0, 0), 123);
    is(x.keyOf(1, 0), 456);
    is(x.status(1), 3);
    is(made(x, 1), made(5, NONE, NONE, 2));
    is(x.truth(1, 0, 24), 1);
    is(x.truth(1, 0, 23), 0);
    is(made(x, 2), made(7, 0, 1, NONE));
    is(x.condOf(2, 3), 7);
    is(x.condOf(2, 5), 1);
    is(x.status(2), 7);
    is(x.status(6), 99);
    is(x.holds(0), 10);
    is(x.holds(1), NONE); // it was dropped, and the shelf with it
    is(x.element(2, 0), 6);
    is(x.holds(3), NONE);
    is(x.holds(4), 12);
    is(x.status(5), 1);
    is(times(x, STUCK), 1);
    x.strike(0);
    is(x.back(), 1);
    is(x.status(0), 2);
    is(x.condOf(2, 6), 4);
    x.strike(0);
    is(x.image(), 1);
    x.strike(0);
    is(x.back(), 1);
    is(x.keyOf(0, 0), 456);
    is(x.status(0), 1);
    x.show(5, 1);
    x.drop();
    x.drop();
    x.image();
    x.gone(0);
    x.gone(1);
    x.show(6, 1);
    x.show(7, 0);
    is(x.back(), 1);
    is(x.holds(6), NONE);
    is(x.holds(7), 10);
    is(x.status(1), 1);
  }

  /** What conditions are taken for, and over, after they came back. */
  private static void back54() {
    SkippingKeys x = withCond("a=1&c%31&ba<45"); // 0 test, 1 rest, 2 and, 3 several, 4 and
    x.image();
    for (int i = 0; i < 5; i++) {
      x.drop();
    }
    x.turn(9, x.gone(0));
    x.among(2, 6);
    x.back();
    int[][] due = {
      // KIND x y COLUMNS SIGN deep PARTS
      {0, NONE, NONE, 1, 1, 0, 1},
      {4, NONE, NONE, 4, NONE, 0, 2},
      {6, 0, 1, 5, NONE, 1, 3},
      {5, NONE, NONE, 3, 0, 0, 8},
      {6, 2, 3, 7, NONE, 2, 11}
    };
    for (int c = 0; c < due.length; c++) {
      for (int what = 0; what <= 6; what++) {
        is(x.condOf(c, what), due[c][what]);
      }
    }
    x.show(0, 1);
    is(x.says(0, 1), 2);
    is(x.says(0, 2), 146);
    x.show(0, 3);
    is(x.says(0, 1), 1);
    is(x.says(0, 6), 2);
    x.show(0, 4);
    is(x.says(0, 5), 3);
    is(x.says(0, 3), 203);
    is(x.pair(6, 4, 0), 5);
    is(x.condOf(5, 6), 11);
    is(x.condOf(5, 5), 3);
    is(x.truth(4, 0, 131), 1);
    is(x.truth(4, 0, 141), 1);
    is(x.truth(4, 0, 151), 0);
    is(x.truth(4, 0, 102), 0);
    is(x.gone(1), 6);
    is(x.condOf(6, 5), 0);
  }

  private static void status55() {
    SkippingKeys x = new SkippingKeys();
    readTable(x, "1.3;1.3;.13;...;13.");
    read(x, "a?|b?");
    x.price(9);
    x.seed(-5);
    feedAll(x, "xyz");
    x.row(0, 0, 0);
    x.show(4, 1);
    is(x.leaders(2, 0, 2, 0), 19);
    int[] due = {5, 3, 9, 4, 7, 3, -5, 2};
    for (int what = 0; what < due.length; what++) {
      is(x.status(what), due[what]);
    }
    x.gone(9);
    x.set(4, 0, 1);
    x.set(4, 0, 1);
    for (int i = 0; i < 3; i++) {
      x.set(5, 0, 1);
    }
    for (int i = 0; i < 4; i++) {
      x.back();
    }
    for (int i = 0; i < 252; i++) {
      x.feed(1);
    }
    int[] counts = {1, 2, 3, 4, 5};
    for (int i = 0; i < 5; i++) {
      is(x.status(12 + i), counts[i]);
    }
    int[] none = {-1, 8, 9, 10, 11, 17, HUGE, LEAST};
    for (int what : none) {
      is(x.status(what), NONE);
    }
    is(x.status(12), 1);
  }

  private static void refusalsChangeNothing() {
    SkippingKeys x = withLines();
    feedAll(x, "a?");
    tell(x, 0, 2, 3);
    x.strike(7);
    x.alter(0, 0, 10);
    x.line(0, 0, 10);
    x.price(21);
    x.days(61);
    x.row(0, 5, 3);
    x.show(0, 1);
    x.turn(8, 1);
    x.feed(256);
    is(times(x, BAD), 9);
    is(x.status(0), 7);
    is(x.keyOf(0, 0), 312);
    is(x.status(2), 4);
    is(x.status(6), 1);
    is(x.element(0, 0), 3);
    is(x.status(1), 1);
    is(x.status(5), 2);
    is(x.cond(), 1);
  }
}
