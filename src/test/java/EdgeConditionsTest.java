/** The edges of promises 17 to 26, and of what a CONDITION is for a KEY. */
public final class EdgeConditionsTest extends Edges {
  private static final int LESS = 0;
  private static final int EQUAL = 1;
  private static final int GREATER = 2;
  private static final int UNEQUAL = 3;
  private static final int FALSE = 0;
  private static final int TRUE = 1;
  private static final int DOUBT = 2;

  private EdgeConditionsTest() {
    super("EdgeConditionsTest");
  }

  public static void main(String[] args) {
    EdgeConditionsTest test = new EdgeConditionsTest();
    test.test17();
    test.testTruth();
    test.among18();
    test.amongTruth();
    test.gone19();
    test.columns20();
    test.columnsTruth();
    test.rest21();
    test.restTruth();
    test.several22();
    test.severalStuck22();
    test.severalGrounds22();
    test.severalOrderTruth();
    test.severalEqualTruth();
    test.pair23();
    test.pairTruth();
    test.turn24();
    test.turnTruth();
    test.drop25();
    test.condOf26();
    test.condOfColumns26();
    test.condOfParts26();
    test.end();
  }

  private static Object[] of(Object... steps) {
    return steps;
  }

  /** The 24th CONDITION is made, the 25th is FULL. */
  private void lastOne(String sentence, Object scene, String call, int ahead) {
    edge(sentence + ": the 24th", scene, (23 - ahead) + " gone 0", call, 23, "status 1", 24);
    edge(sentence + " FULL: the 25th", scene, (24 - ahead) + " gone 0", call, FULL);
  }

  private void badAheadOfFull(String sentence, String... calls) {
    for (String call : calls) {
      edge(sentence + " BAD ahead of FULL", ALL_CONDITIONS, call, BAD);
    }
  }

  /** What CONDITION 0 is for some KEYS in INDEX 0: of twos, KEY and truth. */
  private void truths(String sentence, Object call, int... twos) {
    for (int i = 0; i < twos.length; i += 2) {
      edge(sentence, call, "truth 0 0 " + twos[i], twos[i + 1]);
    }
  }

  private void test17() {
    range("17 COLUMN", NO_SCENE, "test # 0 1", 0, 2);
    range("17 SIGN", NO_SCENE, "test 0 # 1", 0, 3);
    range("17 VALUE", NO_SCENE, "test 0 0 #", 1, 9);
    edge("17 the first", "test 2 3 9", 0, "condOf 0 3", 4, "condOf 0 4", 3, "values 0 2", 510);
    lastOne("17", NO_SCENE, "test 0 0 1", 0);
    badAheadOfFull("17", "test 3 0 1", "test 0 4 1", "test 0 0 10", "test -1 0 1", "test 0 -1 1",
        "test 0 0 0");
    edge("17 a refused one is no CONDITION", WORLD, "test 0 0 0", BAD);
  }

  private void testTruth() {
    truths("TEST <", "test 0 0 5", 400, TRUE, 500, FALSE, 600, FALSE, 0, DOUBT);
    truths("TEST =", "test 0 1 5", 400, FALSE, 500, TRUE, 600, FALSE, 0, DOUBT);
    truths("TEST >", "test 0 2 5", 400, FALSE, 500, FALSE, 600, TRUE, 0, DOUBT);
    truths("TEST ~", "test 0 3 5", 400, TRUE, 500, FALSE, 600, TRUE, 0, DOUBT);
    truths("TEST < 1: never", "test 1 0 1", 10, FALSE, 90, FALSE, 909, DOUBT);
    truths("TEST < 9", "test 1 0 9", 10, TRUE, 80, TRUE, 90, FALSE);
    truths("TEST > 9: never", "test 2 2 9", 1, FALSE, 9, FALSE, 990, DOUBT);
    truths("TEST > 1", "test 2 2 1", 1, FALSE, 2, TRUE, 9, TRUE);
    truths("TEST = 9", "test 2 1 9", 8, FALSE, 9, TRUE, 0, DOUBT);
    truths("TEST ~ 1", "test 2 3 1", 1, FALSE, 2, TRUE, 0, DOUBT);
  }

  private void among18() {
    range("18 COLUMN", NO_SCENE, "among # 2", 0, 2);
    refused("18 BAD: no VALUE, bit 0, bits beyond 9", NO_SCENE, "among 0 #", BAD,
        0, 1, 3, 1023, 1024, 1026, 2046, 2048, -1, -2, MIN, MAX, MIN + 2);
    for (int bit = 1; bit <= 9; bit++) {
      edge("18 one VALUE", "among 1 " + (1 << bit), 0, "values 0 1", 1 << bit);
    }
    edge("18 all VALUES", "among 1 1022", 0, "values 0 1", 1022);
    edge("18 the least and the greatest", "among 1 514", 0, "values 0 1", 514);
    lastOne("18", NO_SCENE, "among 0 2", 0);
    badAheadOfFull("18", "among 3 2", "among -1 2", "among 0 0", "among 0 1", "among 0 1024");
  }

  private void amongTruth() {
    truths("AMONG the least", "among 0 2", 100, TRUE, 200, FALSE, 0, DOUBT);
    truths("AMONG the greatest", "among 2 512", 9, TRUE, 8, FALSE, 990, DOUBT);
    truths("AMONG all", "among 1 1022", 10, TRUE, 90, TRUE, 909, DOUBT);
  }

  private void gone19() {
    range("19 COLUMN", NO_SCENE, "gone #", 0, 2);
    lastOne("19", NO_SCENE, "gone 2", 0);
    badAheadOfFull("19", "gone 3", "gone -1");
    truths("GONE is never in DOUBT", "gone 1", 0, TRUE, 909, TRUE, 10, FALSE, 990, FALSE);
  }

  private void columns20() {
    range("20 COLUMN", NO_SCENE, "columns # 0 2", 0, 1);
    range("20 the other COLUMN", NO_SCENE, "columns 0 0 #", 1, 2);
    range("20 SIGN", NO_SCENE, "columns 2 # 1", 0, 3);
    for (int column = 0; column <= 2; column++) {
      edge("20 BAD: the same COLUMN twice", "columns " + column + " 1 " + column, BAD);
    }
    refused("20 BAD COLUMN", NO_SCENE, "columns # 0 0", BAD, -1, 3, MIN, MAX);
    refused("20 BAD other COLUMN", NO_SCENE, "columns 2 0 #", BAD, -1, 3, MIN, MAX);
    edge("20 the greatest COLUMN with the least", "columns 2 0 0", 0, "condOf 0 3", 5);
    lastOne("20", NO_SCENE, "columns 0 0 1", 0);
    badAheadOfFull("20", "columns 3 0 1", "columns -1 0 1", "columns 0 4 1", "columns 0 -1 1",
        "columns 0 0 3", "columns 0 0 -1", "columns 1 0 1");
  }

  private void columnsTruth() {
    truths("COLUMNS <", "columns 0 0 1", 120, TRUE, 110, FALSE, 210, FALSE);
    truths("COLUMNS =", "columns 0 1 1", 120, FALSE, 110, TRUE, 210, FALSE);
    truths("COLUMNS >", "columns 0 2 1", 120, FALSE, 110, FALSE, 210, TRUE);
    truths("COLUMNS ~", "columns 0 3 1", 120, TRUE, 110, FALSE, 210, TRUE);
    for (int sign = LESS; sign <= UNEQUAL; sign++) {
      truths("COLUMNS: DOUBT, if either is MISSING", "columns 2 " + sign + " 0", 100, DOUBT, 1,
          DOUBT, 0, DOUBT, 90, DOUBT);
    }
    truths("COLUMNS: a third one MISSING is no matter", "columns 2 2 0", 102, TRUE, 201, FALSE);
  }

  private void rest21() {
    range("21 COLUMN", NO_SCENE, "rest # 2 0", 0, 2);
    range("21 m", NO_SCENE, "rest 0 # 0", 2, 9);
    for (int m = 2; m <= 9; m++) {
      range("21 r to m less 1", NO_SCENE, "rest 0 " + m + " #", 0, m - 1);
    }
    refused("21 no m, no r", NO_SCENE, "rest 0 0 #", BAD, -1, 0, 1);
    refused("21 m 1, r 0", NO_SCENE, "rest 0 1 #", BAD, -1, 0, 1);
    refused("21 m less than none, r less", NO_SCENE, "rest 0 -2 #", BAD, -3, 0);
    refused("21 m 10", NO_SCENE, "rest 0 10 #", BAD, 0, 9);
    refused("21 m and r the greatest", NO_SCENE, "rest 0 2147483647 #", BAD, 0, MAX - 1, MAX);
    lastOne("21", NO_SCENE, "rest 0 2 1", 0);
    badAheadOfFull("21", "rest 3 2 0", "rest -1 2 0", "rest 0 1 0", "rest 0 10 0", "rest 0 2 2",
        "rest 0 2 -1");
  }

  private void restTruth() {
    truths("REST 2 0", "rest 0 2 0", 100, FALSE, 200, TRUE, 900, FALSE, 0, DOUBT);
    truths("REST 2 1", "rest 0 2 1", 100, TRUE, 200, FALSE, 900, TRUE, 0, DOUBT);
    truths("REST 9 0", "rest 1 9 0", 10, FALSE, 80, FALSE, 90, TRUE, 909, DOUBT);
    truths("REST 9 8", "rest 2 9 8", 7, FALSE, 8, TRUE, 9, FALSE, 990, DOUBT);
    truths("REST 8 1: 1 and 9", "rest 2 8 1", 1, TRUE, 9, TRUE, 8, FALSE);
  }

  private void several22() {
    Object[] row = {"gone 0", "tell 0 2 0 1 1 2 2 3", "show 1 0"};
    refused("22 BAD SHELF", row, "several # 2 0", BAD, -1, 8, MIN, MAX);
    range("22 SIGN", row, "several 0 2 #", 0, 3);
    range("22 n", row, "several 0 # 0", 2, 3);
    edge("22 OTHER: a CONDITION", row, "several 1 2 0", OTHER);
    edge("22 NOTHING", row, "several 2 2 0", NOTHING);
    refused("22 BAD: no elements", of("row 3 2 0"), "several 3 # 0", BAD, 2, 3);
    edge("22 BAD: one element fewer than 2 twos", "tell 0 2 0 1 1", "several 0 2 0", BAD);
    edge("22 just 2 twos", "tell 0 2 0 1 1 1", "several 0 2 0", 0);
    edge("22 BAD: one element fewer than 3 twos", "tell 0 2 0 1 1 1 2", "several 0 3 0", BAD);
    edge("22 just 3 twos", "tell 0 2 0 1 1 1 2 1", "several 0 3 0", 0);
    edge("22 elements behind the first n twos are no matter", "tell 0 2 0 1 1 1 7 7",
        "several 0 2 0", 0, "condOf 0 3", 3);
    edge("22 of the first SHELF", "tell 0 2 2 9 0 9", "several 0 2 2", 0, "condOf 0 3", 5);
    edge("22 of the last SHELF", "tell 7 2 2 9 0 9", "several 7 2 2", 0, "condOf 0 3", 5);
    edge("22 of bytes", "tell 0 0 258 513 0 9", "several 0 2 1", 0, "truth 0 0 901", TRUE);
    edge("22 of shorts", "tell 0 1 65538 65537 0 9", "several 0 2 1", 0, "truth 0 0 901", TRUE);
    edge("22 of booleans", "tell 0 4 0 1 1 1", "several 0 2 1", 0, "truth 0 0 110", TRUE);
    edge("22 the ROW may change then", "tell 0 2 0 1 1 2", "several 0 2 1", "set 0 1 9",
        "truth 0 0 120", TRUE);
    lastOne("22", of("tell 0 2 0 1 1 1"), "several 0 2 0", 0);
  }

  private void severalStuck22() {
    String[] stuck = {
      "-1 1 1 1 2 1", "3 1 1 1 2 1", "0 1 -1 1 2 1", "0 1 3 1 2 1", "0 1 1 1 -1 1", "0 1 1 1 3 1",
      "0 0 1 1 2 1", "0 10 1 1 2 1", "0 1 1 0 2 1", "0 1 1 10 2 1", "0 1 1 1 2 0", "0 1 1 1 2 10",
      "0 -1 1 1 2 1", "0 1 1 1 2 -1", "0 1 0 1 2 1", "0 1 1 1 0 1", "0 1 1 1 1 1", "2 1 2 1 0 1",
      "4294967296 1 1 1 2 1", "0 1 4294967297 1 2 1", "0 4294967297 1 1 2 1",
      "0 1 1 1 2 -9223372036854775807", "-9223372036854775808 1 1 1 2 1"
    };
    for (String told : stuck) {
      edge("22 STUCK: " + told, "tell 0 3 " + told, "several 0 3 0", STUCK);
    }
    edge("22 not STUCK by the third two", "tell 0 3 0 1 1 1 0 1", "several 0 2 0", 0);
    edge("22 STUCK by the first two alone", "tell 0 3 3 1 1 1", "several 0 2 0", STUCK);
    edge("22 STUCK: COLUMNS the same in two twos", "tell 0 3 1 1 1 2", "several 0 2 0", STUCK);
    edge("22 the least COLUMN and VALUE, the greatest ones", "tell 0 3 0 1 2 9", "several 0 2 1", 0,
        "truth 0 0 109", TRUE);
    edge("22 two VALUES the same", "tell 0 3 0 5 1 5 2 5", "several 0 3 1", 0, "truth 0 0 555",
        TRUE);
  }

  private void severalGrounds22() {
    Object[] row = {"gone 0", "tell 0 2 0 1 1 2 0", "show 1 0", "tell 3 2 0 1 0 2"};
    edge("22 BAD SHELF and BAD n", row, "several 8 4 0", BAD);
    refused("22 BAD sign ahead of OTHER", row, "several 1 2 #", BAD, -1, 4);
    refused("22 BAD sign ahead of NOTHING", row, "several 2 2 #", BAD, -1, 4);
    refused("22 BAD n ahead of OTHER", row, "several 1 # 0", BAD, -1, 0, 1, 4, 21);
    refused("22 BAD n ahead of NOTHING", row, "several 2 # 0", BAD, 1, 4);
    refused("22 BAD n ahead of STUCK", row, "several 3 # 0", BAD, 1, 4);
    edge("22 BAD sign ahead of STUCK", row, "several 3 2 4", BAD);
    edge("22 BAD, fewer elements, ahead of STUCK", row, "several 3 3 0", BAD);
    edge("22 BAD, fewer elements, ahead of STUCK by what it has", "tell 0 2 7 7 7 7 7",
        "several 0 3 0", BAD);
    Object[] full = {row, "23 gone 0"};
    edge("22 BAD SHELF ahead of FULL", full, "several 8 2 0", BAD);
    edge("22 BAD sign ahead of FULL", full, "several 0 2 4", BAD);
    edge("22 BAD n ahead of FULL", full, "several 0 4 0", BAD);
    edge("22 OTHER ahead of FULL", full, "several 1 2 0", OTHER);
    edge("22 NOTHING ahead of FULL", full, "several 2 2 0", NOTHING);
    edge("22 BAD, fewer elements, ahead of FULL", full, "several 0 3 0", BAD);
    edge("22 STUCK ahead of FULL", full, "several 3 2 0", STUCK);
    edge("22 FULL then", full, "several 0 2 0", FULL);
  }

  private void severalOrderTruth() {
    Object[] less = {"tell 0 2 0 5 1 5", "several 0 2 0"};
    truths("SEVERAL < by the first", less, 490, TRUE, 610, FALSE);
    truths("SEVERAL < by the next one", less, 540, TRUE, 560, FALSE);
    truths("SEVERAL < equal to the end", less, 550, FALSE);
    truths("SEVERAL < the first MISSING", less, 10, DOUBT, 50, DOUBT, 90, DOUBT, 0, DOUBT);
    truths("SEVERAL < the next one MISSING, looked at", less, 500, DOUBT);
    truths("SEVERAL < the next one MISSING, not looked at", less, 400, TRUE, 600, FALSE);
    Object[] greater = {"tell 0 2 2 5 0 5 1 5", "several 0 3 2"}; // cab
    truths("SEVERAL > by the first", greater, 116, TRUE, 994, FALSE);
    truths("SEVERAL > by the second", greater, 615, TRUE, 495, FALSE);
    truths("SEVERAL > by the third", greater, 565, TRUE, 545, FALSE);
    truths("SEVERAL > equal to the end", greater, 555, FALSE);
    truths("SEVERAL > MISSING, looked at", greater, 990, DOUBT, 95, DOUBT, 505, DOUBT);
    truths("SEVERAL > MISSING, not looked at", greater, 6, TRUE, 4, FALSE, 605, TRUE, 405, FALSE);
    Object[] least = {"tell 0 2 0 1 1 1", "several 0 2 0"};
    truths("SEVERAL < of the least", least, 110, FALSE, 120, FALSE, 200, FALSE, 100, DOUBT);
    Object[] greatest = {"tell 0 2 0 9 1 9", "several 0 2 2"};
    truths("SEVERAL > of the greatest", greatest, 990, FALSE, 980, FALSE, 900, DOUBT);
  }

  private void severalEqualTruth() {
    Object[] equal = {"tell 0 2 0 5 1 6 2 7", "several 0 3 1"};
    truths("SEVERAL = all", equal, 567, TRUE);
    truths("SEVERAL = one isn't", equal, 467, FALSE, 557, FALSE, 568, FALSE);
    truths("SEVERAL = one MISSING", equal, 67, DOUBT, 507, DOUBT, 560, DOUBT);
    truths("SEVERAL = all MISSING", equal, 0, DOUBT);
    truths("SEVERAL = one isn't, one MISSING ahead of it", equal, 57, FALSE, 8, FALSE);
    truths("SEVERAL = one isn't, one MISSING behind it", equal, 407, FALSE, 550, FALSE, 400, FALSE);
    Object[] unequal = {"tell 0 2 0 5 1 6 2 7", "several 0 3 3"};
    truths("SEVERAL ~ all equal", unequal, 567, FALSE);
    truths("SEVERAL ~ one isn't", unequal, 467, TRUE, 557, TRUE, 568, TRUE);
    truths("SEVERAL ~ one MISSING", unequal, 67, DOUBT, 507, DOUBT, 560, DOUBT, 0, DOUBT);
    truths("SEVERAL ~ one isn't, one MISSING", unequal, 57, TRUE, 407, TRUE, 550, TRUE, 8, TRUE);
    Object[] two = {"tell 0 2 2 9 1 1", "several 0 2 1"};
    truths("SEVERAL of two: the third one is no matter", two, 19, TRUE, 919, TRUE, 910, DOUBT);
  }

  private void pair23() {
    refused("23 kind", WORLD, "pair # 0 1", BAD, MIN, -1, 0, 5, 8, 9, 10, MAX);
    edge("23 an AND", WORLD, "pair 6 0 1", 7, "condOf 7 0", 6);
    edge("23 an OR", WORLD, "pair 7 0 1", 7, "condOf 7 0", 7);
    range("23 x: the CONDITIONS there are", WORLD, "pair 6 # 0", 0, 6);
    range("23 y: the CONDITIONS there are", WORLD, "pair 7 0 #", 0, 6);
    refused("23 no CONDITIONS", NO_SCENE, "pair 6 # 0", BAD, -1, 0);
    edge("23 x and y the same", WORLD, "pair 6 5 5", 7, "condOf 7 1", 5, "condOf 7 2", 5);
    edge("23 x behind y", WORLD, "pair 7 6 2", 7, "condOf 7 1", 6, "condOf 7 2", 2);
    edge("23 x dropped", WORLD, "drop", "pair 7 6 2", BAD);
    lastOne("23", of("gone 0"), "pair 6 0 0", 1);
    edge("23 over the last but one", "23 gone 0", "pair 7 22 22", 23, "condOf 23 5", 1);
    badAheadOfFull("23", "pair 5 0 0", "pair 8 0 0", "pair 6 24 0", "pair 6 0 24", "pair 6 -1 0",
        "pair 6 0 -1");
  }

  private void pairTruth() {
    int[] keys = {110, 120, 100, 210, 220, 200, 10, 20, 0}; // TRUE, FALSE, DOUBT by both
    int[] and = {TRUE, FALSE, DOUBT, FALSE, FALSE, FALSE, DOUBT, FALSE, DOUBT};
    int[] or = {TRUE, TRUE, TRUE, TRUE, FALSE, DOUBT, TRUE, DOUBT, DOUBT};
    for (int i = 0; i < keys.length; i++) {
      edge("AND", "test 0 1 1", "test 1 1 1", "pair 6 0 1", "truth 2 0 " + keys[i], and[i]);
      edge("OR", "test 0 1 1", "test 1 1 1", "pair 7 0 1", "truth 2 0 " + keys[i], or[i]);
    }
    for (int i = 0; i < keys.length; i++) {
      edge("AND, x behind y", "test 0 1 1", "test 1 1 1", "pair 6 1 0", "truth 2 0 " + keys[i],
          and[i]);
      edge("OR, x behind y", "test 0 1 1", "test 1 1 1", "pair 7 1 0", "truth 2 0 " + keys[i],
          or[i]);
    }
    int[] one = {100, 200, 0};
    for (int i = 0; i < one.length; i++) {
      int due = i == 0 ? TRUE : i == 1 ? FALSE : DOUBT;
      edge("AND of the same", "test 0 1 1", "pair 6 0 0", "truth 1 0 " + one[i], due);
      edge("OR of the same", "test 0 1 1", "pair 7 0 0", "truth 1 0 " + one[i], due);
    }
  }

  private void turn24() {
    refused("24 kind", WORLD, "turn # 0", BAD, MIN, -1, 0, 6, 7, 10, MAX);
    edge("24 a NOT", WORLD, "turn 8 0", 7, "condOf 7 0", 8);
    edge("24 a SURE", WORLD, "turn 9 0", 7, "condOf 7 0", 9);
    range("24 x: the CONDITIONS there are", WORLD, "turn 8 #", 0, 6);
    refused("24 no CONDITIONS", NO_SCENE, "turn 9 #", BAD, -1, 0);
    lastOne("24", of("gone 0"), "turn 9 0", 1);
    edge("24 over the last but one", "23 gone 0", "turn 8 22", 23, "condOf 23 1", 22);
    badAheadOfFull("24", "turn 7 0", "turn 10 0", "turn 8 24", "turn 9 -1");
  }

  private void turnTruth() {
    Object[] not = {"test 0 1 1", "turn 8 0"};
    edge("NOT of TRUE", not, "truth 1 0 100", FALSE);
    edge("NOT of FALSE", not, "truth 1 0 200", TRUE);
    edge("NOT of DOUBT", not, "truth 1 0 0", DOUBT);
    Object[] sure = {"test 0 1 1", "turn 9 0"};
    edge("SURE of TRUE", sure, "truth 1 0 100", TRUE);
    edge("SURE of FALSE", sure, "truth 1 0 200", FALSE);
    edge("SURE of DOUBT", sure, "truth 1 0 0", FALSE);
  }

  private void drop25() {
    edge("25 STUCK: none", "drop", STUCK);
    edge("25 STUCK: none any more", "gone 0", "drop", 0, "drop", STUCK);
    edge("25 the only one", "gone 0", "drop", 0, "status 1", 0, "condOf 0 0", BAD);
    edge("25 all, one by one", ALL_CONDITIONS, "drop", 23, "22 drop", 1, "drop", 0, "drop", STUCK);
    edge("25 only the last one", WORLD, "drop", 6, "condOf 6 0", BAD);
    edge("25 not the one ahead of it", WORLD, "drop", 6, "condOf 5 0", 3);
    edge("25 a SHELF that held it", "2 gone 0", "show 0 1", "drop", 1, "holds 0", NONE,
        "set 0 0 1", NOTHING);
    edge("25 all SHELVES that held it", "gone 0", "show 0 0", "show 7 0", "drop", "status 7", 0);
    edge("25 a SHELF that held another", "2 gone 0", "show 0 0", "drop", 1, "holds 0", 10);
    edge("25 a SHELF that holds a ROW", "gone 0", "row 0 4 1", "drop", 0, "holds 0", 4);
    edge("25 a SHELF holds it no more, even if it comes again", "gone 0", "show 0 0", "drop",
        "gone 0", 0, "holds 0", NONE);
    edge("25 over a dropped one: a new one", "test 0 1 4", "drop", "test 0 1 5", 0,
        "truth 0 0 500", TRUE);
    edge("25 over a dropped one, TRUE for all: FALSE for all", "tape a?|-a?", "cond", 3, "drop",
        "pair 6 0 2", 3, "keys 3 0", 1000);
    edge("25 over a dropped one, FALSE for all: TRUE for all", "tape a?&-a?", "cond", 3, "drop",
        "pair 7 0 2", 3, "keys 3 1", 1000);
    edge("25 over a dropped one, TRUE for all: some in DOUBT", "tape a?|-a?", "cond", 3, "drop",
        "test 2 1 5", 3, "keys 3 0", 800, "keys 3 1", 100, "keys 3 2", 100);
    edge("25 one over none where one over another was", "gone 0", "turn 8 0", "drop", 1, "gone 1",
        1, "condOf 1 5", 0, "condOf 1 3", 2, "condOf 1 1", NONE);
    edge("25 one over another where one over none was", ALL_CONDITIONS, "gone 2", FULL, "drop", 23,
        "turn 8 0", 23, "condOf 23 3", 1, "condOf 23 5", 1);
    edge("25 room again", ALL_CONDITIONS, "drop", 23, "gone 2", 23, "gone 2", FULL);
  }

  private void condOf26() {
    range("26 cond: the CONDITIONS there are", WORLD, "condOf # 0", 0, 6);
    range("26 what", WORLD, "condOf 3 #", 0, 6);
    refused("26 no CONDITIONS", NO_SCENE, "condOf # 0", BAD, -1, 0);
    edge("26 both BAD", WORLD, "condOf 7 7", BAD);
    String[] kinds = {
      "test 0 1 4", "among 0 6", "gone 1", "columns 2 0 1", "rest 2 3 0", "several 0 2 2",
      "pair 6 0 1", "pair 7 1 0", "turn 8 1", "turn 9 1"
    };
    int[][] due = {
      // x, y, SIGN, how deep
      {NONE, NONE, EQUAL, 0}, {NONE, NONE, NONE, 0}, {NONE, NONE, NONE, 0}, {NONE, NONE, LESS, 0},
      {NONE, NONE, NONE, 0}, {NONE, NONE, GREATER, 0}, {0, 1, NONE, 1}, {1, 0, NONE, 1},
      {1, NONE, NONE, 1}, {1, NONE, NONE, 1}
    };
    Object[] two = {"test 0 1 4", "gone 0", "tell 0 2 0 1 1 1"};
    for (int kind = 0; kind < kinds.length; kind++) {
      edge("26 KIND", two, kinds[kind], 2, "condOf 2 0", kind);
      edge("26 x, or NONE", two, kinds[kind], 2, "condOf 2 1", due[kind][0], "status 12", 0);
      edge("26 y, or NONE", two, kinds[kind], 2, "condOf 2 2", due[kind][1], "status 12", 0);
      edge("26 SIGN, or NONE", two, kinds[kind], 2, "condOf 2 4", due[kind][2], "status 12", 0);
      edge("26 how deep", two, kinds[kind], 2, "condOf 2 5", due[kind][3]);
      edge("26 PARTS", two, kinds[kind], 2, "condOf 2 6", kind == 6 ? 3 : 4);
    }
    edge("26 the deepest", "tape " + "-".repeat(23) + "a?", "cond", "condOf 23 5", 23);
    edge("26 1 more than the deeper y", "tape a?|-+b?", "cond", 4, "condOf 4 5", 3);
    edge("26 1 more than the deeper x", "tape -+a?|b?", "cond", 4, "condOf 4 5", 3);
  }

  private void condOfColumns26() {
    for (int column = 0; column <= 2; column++) {
      edge("26 one COLUMN", "gone " + column, "condOf 0 3", 1 << column);
    }
    edge("26 both of a COLUMNS", "columns 2 0 1", "condOf 0 3", 6);
    edge("26 two of a SEVERAL", "tape ca=12", "cond", "condOf 0 3", 5);
    edge("26 three of a SEVERAL", "tape cab=123", "cond", "condOf 0 3", 7);
    edge("26 those of x and y", "tape a?|c?", "cond", "condOf 2 3", 5);
    edge("26 those of a TURN's x", "tape -+b?", "cond", "condOf 2 3", 2);
    edge("26 anywhere in it", "tape a?&-(b?|a=c)", "cond", 5, "condOf 5 3", 7);
  }

  private void condOfParts26() {
    edge("26 PARTS of the first", "gone 0", "condOf 0 6", 1);
    edge("26 PARTS of the last", ALL_CONDITIONS, "condOf 23 6", 1 << 23);
    edge("26 PARTS of an AND of ANDs", "tape a?&b?&(c?&a?)", "cond", 6, "condOf 6 6",
        1 + 2 + 8 + 16);
    edge("26 PARTS of an AND of the same", "gone 0", "pair 6 0 0", "condOf 1 6", 1);
    edge("26 PARTS of an AND over an OR", "tape a?&(b?|c?)", "cond", 4, "condOf 4 6", 1 + 8);
    edge("26 PARTS of an OR over ANDs", "tape a?&b?|c?&a?", "cond", 6, "condOf 6 6", 64);
    edge("26 PARTS of a NOT of an AND", "tape -(a?&b?)", "cond", 3, "condOf 3 6", 8);
    edge("26 PARTS of a SURE of an AND", "tape +(a?&b?)", "cond", 3, "condOf 3 6", 8);
    edge("26 PARTS of an AND over a NOT of an AND", "tape c?&-(a?&b?)", "cond", 5, "condOf 5 6",
        1 + 16);
  }
}
