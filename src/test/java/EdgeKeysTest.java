/** The edges of promises 27 to 40: KEYS, RUNS, PLANS, what is BEST, seeks and leaders. */
public final class EdgeKeysTest extends Edges {
  private static final int EACH_COND = 6;

  /** Conditions by where they are TRUE in INDEX 0, each with its number. */
  private static final String[] NOWHERE = {"test 0 0 1"}; // 0
  private static final String[] EVERYWHERE = {"tape a?|-a?", "cond"}; // 3
  private static final String[] AT_FIRST = {"tape a?&b?&c?", "cond"}; // 4: KEY 0
  private static final String[] AT_LAST = {"tape abc=999", "cond"}; // 0: KEY 999
  private static final String[] AT_BOTH_ENDS = {"tape abc=999|a?&b?&c?", "cond"}; // 6
  private static final String[] THREE = {"tape a[1 3 9]&b?", "cond"}; // 2: 100, 300, 900 and 9 more
  private static final String[] FORTY = {"among 1 170"}; // 0: 10 to 19, 30 .., 50 .., 70 .., 110 ..
  private static final String[] FORTY_ONE = { // 2: these, and 999
    "among 1 170", "tape abc=999", "cond", "pair 7 0 1"
  };

  /** Lines at the ends of the spans 100 to 309 and 900 to 909, and just beyond them. */
  private static final String[] LINES_AT_ENDS = {
    "line 0 9 9", "line 1 0 0", "line 1 1 0", "line 2 9 9", "line 3 0 9", "line 3 1 0",
    "line 8 9 9", "line 9 0 0", "line 9 0 9", "line 9 1 0"
  };

  private EdgeKeysTest() {
    super("EdgeKeysTest");
  }

  public static void main(String[] args) {
    EdgeKeysTest test = new EdgeKeysTest();
    test.lineOf27();
    test.keyOf28();
    test.truth29();
    test.keys30();
    test.lines31();
    test.values32();
    test.runs33();
    test.run34();
    test.planRefused35();
    test.planOfMany35();
    test.planJoins35();
    test.planAgain35();
    test.ofRefused36();
    test.of36();
    test.ofStill36();
    test.bestRefused37();
    test.best37();
    test.bestAtMostForty37();
    test.bestIndex38();
    test.seekRefused39();
    test.seek39();
    test.leadersRefused40();
    test.leaders40();
    test.end();
  }

  private void condAndIndex(String promise, String call) {
    range(promise + " cond: the CONDITIONS there are", WORLD, call.replace("COND", "#")
        .replace("INDEX", "0"), 0, EACH_COND);
    range(promise + " INDEX", WORLD, call.replace("COND", "4").replace("INDEX", "#"), 0, 5);
    edge(promise + " no CONDITIONS", call.replace("COND", "0").replace("INDEX", "0"), BAD);
    edge(promise + " a CONDITION that is dropped", WORLD, "drop",
        call.replace("COND", "6").replace("INDEX", "0"), BAD);
  }

  private void lineOf27() {
    range("27 the LINES there are", WORLD, "lineOf # 0", 0, 2);
    range("27 COLUMN", WORLD, "lineOf 1 #", 0, 2);
    edge("27 no LINES", "lineOf 0 0", BAD);
    edge("27 the last of sixty", "59 line 1 1 1", "line 7 8 9", "lineOf 59 2", 9, "lineOf 58 2", 1);
    edge("27 behind sixty", SIXTY_LINES, "lineOf 60 0", BAD);
    edge("27 a LINE that is struck", WORLD, "strike 0", "lineOf 2 0", BAD);
    edge("27 MISSING is told as 0", WORLD, "lineOf 1 2", 0);
    edge("27 both BAD", WORLD, "lineOf 3 3", BAD);
  }

  private void keyOf28() {
    range("28 the LINES there are", WORLD, "keyOf # 0", 0, 2);
    range("28 INDEX", WORLD, "keyOf 2 #", 0, 5);
    edge("28 no LINES", "keyOf 0 0", BAD);
    edge("28 behind sixty", SIXTY_LINES, "keyOf 60 0", BAD);
    edge("28 both BAD", WORLD, "keyOf 3 6", BAD);
    int[] due = {123, 132, 213, 231, 312, 321};
    for (int index = 0; index <= 5; index++) {
      edge("28 INDEX " + index, "line 1 2 3", "keyOf 0 " + index, due[index]);
      edge("28 the least KEY", "line 0 0 0", "keyOf 0 " + index, 0);
      edge("28 the greatest KEY", "line 9 9 9", "keyOf 0 " + index, 999);
    }
    edge("28 MISSING at first", "line 0 2 3", "keyOf 0 0", 23, "keyOf 0 5", 320);
    edge("28 the last of sixty", "59 line 1 1 1", "line 7 8 9", "keyOf 59 5", 987);
  }

  private void truth29() {
    condAndIndex("29", "truth COND INDEX 123");
    refused("29 KEY", WORLD, "truth 0 0 #", BAD, -1, 1000, MIN, MAX);
    edge("29 the least KEY", AT_FIRST, "truth 4 0 0", 1);
    edge("29 the KEY behind the least", AT_FIRST, "truth 4 0 1", 0);
    edge("29 the greatest KEY", AT_LAST, "truth 0 0 999", 1);
    edge("29 the KEY ahead of the greatest", AT_LAST, "truth 0 0 998", 0);
    int[] keys = {123, 132, 213, 231, 312, 321};
    for (int index = 0; index <= 5; index++) {
      edge("29 by INDEX " + index, "tape abc=123", "cond",
          "truth 0 " + index + " " + keys[index], 1);
      edge("29 the greatest KEY by INDEX " + index, AT_LAST, "truth 0 " + index + " 999", 1);
      edge("29 the least KEY by INDEX " + index, AT_FIRST, "truth 4 " + index + " 0", 1);
      edge("29 KEY 90 by INDEX " + index, "gone 0", "truth 0 " + index + " 90",
          index == 2 || index == 4 ? 0 : 1);
    }
    edge("29 all three BAD", WORLD, "truth 7 6 1000", BAD);
  }

  private void keys30() {
    range("30 cond: the CONDITIONS there are", WORLD, "keys # 0", 0, EACH_COND);
    range("30 truth", WORLD, "keys 3 #", 0, 2);
    edge("30 no CONDITIONS", "keys 0 0", BAD);
    edge("30 TRUE for none", NOWHERE, "keys 0 1", 0);
    edge("30 FALSE for all but those in DOUBT", NOWHERE, "keys 0 0", 900);
    edge("30 DOUBT", NOWHERE, "keys 0 2", 100);
    edge("30 TRUE for all", EVERYWHERE, "keys 3 1", 1000);
    edge("30 FALSE for none", EVERYWHERE, "keys 3 0", 0);
    edge("30 DOUBT for none", EVERYWHERE, "keys 3 2", 0);
    edge("30 the first and the last KEY", AT_BOTH_ENDS, "keys 6 1", 2);
    edge("30 all count, whether a LINE has them or not", NOWHERE, SIXTY_LINES, "keys 0 0", 900);
  }

  private void lines31() {
    range("31 cond: the CONDITIONS there are", WORLD, "lines # 0", 0, EACH_COND);
    range("31 truth", WORLD, "lines 3 #", 0, 2);
    edge("31 no CONDITIONS", SIXTY_LINES, "lines 0 0", BAD);
    for (int truth = 0; truth <= 2; truth++) {
      edge("31 no LINES", "test 0 1 1", "lines 0 " + truth, 0);
    }
    edge("31 sixty LINES, TRUE", "test 0 1 1", SIXTY_LINES, "lines 0 1", 60);
    edge("31 sixty LINES, none FALSE", "test 0 1 1", SIXTY_LINES, "lines 0 0", 0);
    edge("31 sixty LINES, in DOUBT", "test 0 1 1", "60 line 0 1 1", "lines 0 2", 60);
    edge("31 a LINE struck counts no more", "test 0 1 1", "2 line 1 1 1", "strike 1",
        "lines 0 1", 1);
  }

  private void values32() {
    range("32 cond: the CONDITIONS there are", WORLD, "values # 0", 0, EACH_COND);
    range("32 COLUMN", WORLD, "values 3 #", 0, 2);
    edge("32 no CONDITIONS", "values 0 0", BAD);
    for (int column = 0; column <= 2; column++) {
      edge("32 TRUE for no KEY: no bits", NOWHERE, "values 0 " + column, 0);
      edge("32 TRUE for all: all bits", EVERYWHERE, "values 3 " + column, 1023);
      edge("32 MISSING alone: bit 0", AT_FIRST, "values 4 " + column, 1);
      edge("32 9 alone: bit 9", AT_LAST, "values 0 " + column, 512);
      edge("32 both", AT_BOTH_ENDS, "values 6 " + column, 513);
    }
  }

  private void runs33() {
    condAndIndex("33", "runs COND INDEX");
    edge("33 none", NOWHERE, "runs 0 0", 0);
    edge("33 one of all KEYS", EVERYWHERE, "runs 3 0", 1);
    edge("33 at the first KEY", AT_FIRST, "runs 4 0", 1);
    edge("33 at the last KEY", AT_LAST, "runs 0 0", 1);
    edge("33 at both ends", AT_BOTH_ENDS, "runs 6 5", 2);
    edge("33 as many as there can be", "rest 2 2 1", "runs 0 0", 500);
    edge("33 as many, with KEY 0", "tape c%20|c?", "cond", 2, "runs 2 0", 500);
    edge("33 by another INDEX", "rest 2 2 1", "runs 0 5", 5);
    edge("33 across tens and hundreds", "tape -(abc=555)", "cond", "runs 1 0", 8);
  }

  private void run34() {
    condAndIndex("34", "run COND INDEX 0");
    edge("34 no first one", NOWHERE, "run 0 0 0", BAD);
    refused("34 only one", EVERYWHERE, "run 3 0 #", BAD, -1, 1, MIN, MAX);
    edge("34 all KEYS", EVERYWHERE, "run 3 0 0", 999);
    edge("34 the first KEY alone", AT_FIRST, "run 4 0 0", 0);
    edge("34 the last KEY alone", AT_LAST, "run 0 0 0", 999999);
    edge("34 from the first KEY on", "gone 0", "run 0 0 0", 99);
    edge("34 up to the last KEY", "test 0 2 8", "run 0 0 0", 900999);
    edge("34 the first of two", AT_BOTH_ENDS, "run 6 0 0", 0);
    edge("34 the second of two", AT_BOTH_ENDS, "run 6 0 1", 999999);
    edge("34 no third of two", AT_BOTH_ENDS, "run 6 0 2", BAD);
    range("34 all forty", FORTY, "run 0 0 #", 0, 39);
    edge("34 the last of 500", "rest 2 2 1", "run 0 0 499", 999999);
    edge("34 behind 500", "rest 2 2 1", "run 0 0 500", BAD);
    edge("34 the first of 500 from KEY 0", "tape c%20|c?", "cond", "run 2 0 0", 0);
    edge("34 the last of 500 from KEY 0", "tape c%20|c?", "cond", "run 2 0 499", 998998);
    edge("34 fewer by another INDEX", "rest 2 2 1", "run 0 5 5", BAD);
  }

  private void planRefused35() {
    condAndIndex("35", "plan COND INDEX 1 0");
    range("35 n", WORLD, "plan 4 0 # 0", 1, 40);
    range("35 n with NONE", WORLD, "plan 4 0 # -1", 1, 40);
    refused("35 BAD i of one SPAN", EVERYWHERE, "plan 3 0 40 #", BAD, -2, 1, MIN, MAX);
    refused("35 BAD i of two SPANS", THREE, "plan 2 0 2 #", BAD, -2, 2, 3);
    refused("35 BAD i of no SPANS", NOWHERE, "plan 0 0 1 #", BAD, -2, 0);
    range("35 i of forty SPANS, or NONE", FORTY, "plan 0 0 40 #", -1, 39);
    edge("35 n and i BAD", FORTY, "plan 0 0 41 40", BAD);
  }

  private void planOfMany35() {
    edge("35 no RUNS: no SPANS", NOWHERE, "plan 0 0 1 -1", 0);
    edge("35 no RUNS: no SPANS by forty", NOWHERE, "plan 0 0 40 -1", 0);
    edge("35 one RUN", EVERYWHERE, "plan 3 0 1 -1", 1);
    edge("35 one RUN by forty", EVERYWHERE, "plan 3 0 40 0", 999);
    edge("35 fewer RUNS than n", THREE, "plan 2 0 4 -1", 3);
    edge("35 as many RUNS as n", THREE, "plan 2 0 3 -1", 3);
    edge("35 as many RUNS as n: they are the SPANS", THREE, "plan 2 0 3 1", 300309);
    edge("35 one RUN more than n", THREE, "plan 2 0 2 -1", 2);
    edge("35 forty RUNS by forty", FORTY, "plan 0 0 40 -1", 40);
    edge("35 forty RUNS by forty: none joined", FORTY, "plan 0 0 40 0", 10019);
    edge("35 forty RUNS by 39", FORTY, "plan 0 0 39 -1", 39);
    edge("35 forty RUNS by 39: the first two joined", FORTY, "plan 0 0 39 0", 10039);
    edge("35 forty RUNS by 39: the next ones not", FORTY, "plan 0 0 39 1", 50059);
    edge("35 forty RUNS by 39: the last one", FORTY, "plan 0 0 39 38", 970979);
    edge("35 forty-one RUNS by forty", FORTY_ONE, "plan 2 0 40 -1", 40);
    edge("35 forty-one RUNS by forty: the first", FORTY_ONE, "plan 2 0 40 0", 10039);
    edge("35 forty-one RUNS by forty: the last", FORTY_ONE, "plan 2 0 40 39", 999999);
    edge("35 500 RUNS by one", "rest 2 2 1", "plan 0 0 1 0", 1999);
    edge("35 500 RUNS by forty", "rest 2 2 1", "plan 0 0 40 -1", 40);
    // All gaps have one KEY: the first 461 RUNS become one, its last KEY is 921.
    edge("35 500 RUNS by forty: all of the first", "rest 2 2 1", "plan 0 0 40 0", 1921);
    edge("35 500 RUNS by forty: then the others", "rest 2 2 1", "plan 0 0 40 1", 923923);
  }

  private void planJoins35() {
    edge("35 both ends by one", AT_BOTH_ENDS, "plan 6 0 1 0", 999);
    edge("35 both ends by two", AT_BOTH_ENDS, "plan 6 0 2 1", 999999);
    edge("35 fewest KEYS between the first two", THREE, "plan 2 0 2 0", 100309);
    edge("35 the one that stays behind them", THREE, "plan 2 0 2 1", 900909);
    Object[] later = {"tape a[1 7 9]&b?", "cond"};
    edge("35 fewest KEYS between the last two", later, "plan 2 0 2 1", 700909);
    edge("35 the one that stays ahead of them", later, "plan 2 0 2 0", 100109);
    Object[] byOne = {"tape b=5&c[1 2 3]|b=5&c[5 6]|b=5&c=9", "cond"}; // 51-53, 55-56, 59, 151..
    edge("35 one KEY between ahead of two", byOne, "plan 10 0 21 0", 51056);
    edge("35 the last that one KEY more joins", byOne, "plan 10 0 20 18", 951956);
    edge("35 two KEYS between when none of one are left", byOne, "plan 10 0 19 0", 51059);
    edge("35 two KEYS between: only the first two then", byOne, "plan 10 0 19 1", 151156);
    Object[] alike = {"tape a[1 3 5 7]&b?", "cond"};
    edge("35 of several the first two", alike, "plan 2 0 3 0", 100309);
    edge("35 of several not the next", alike, "plan 2 0 3 1", 500509);
    edge("35 of several the first two again", alike, "plan 2 0 2 0", 100509);
    edge("35 the last stays", alike, "plan 2 0 2 1", 700709);
  }

  /** What a PLAN ahead has joined is no matter for the next one. */
  private void planAgain35() {
    int[] due = {100109, 300309, 900909};
    for (int i = 0; i < due.length; i++) {
      edge("35 by one, then by three", THREE, "plan 2 0 1 0", 100909, "plan 2 0 3 " + i, due[i]);
      edge("35 one of 500 RUNS, then by three", THREE, "rest 2 2 1", 3, "plan 3 0 1 0", 1999,
          "plan 2 0 3 " + i, due[i]);
    }
    edge("35 one of 500 RUNS, then by one", THREE, "rest 2 2 1", 3, "plan 3 0 1 0", 1999,
        "plan 2 0 1 0", 100909);
    Object[] scene = {THREE, "rest 2 2 1", "line 9 9 9", "line 0 9 9", "plan 3 0 1 0"};
    int[] dueOf = {780, 0, 0, 4, 3};
    for (int what = 0; what < dueOf.length; what++) {
      edge("36 one of 500 RUNS, then by one: what " + what, scene, "of 2 0 1 " + what, dueOf[what]);
    }
    edge("36 by one, then by three", THREE, "of 2 0 1 0", 780, "of 2 0 3 0", 0);
  }

  private void ofRefused36() {
    condAndIndex("36", "of COND INDEX 1 0");
    range("36 n", WORLD, "of 4 0 # 3", 1, 40);
    range("36 what", WORLD, "of 4 0 1 #", 0, 4);
    edge("36 n and what BAD", WORLD, "of 4 0 0 5", BAD);
  }

  private void of36() {
    for (int what = 0; what <= 4; what++) {
      edge("36 no SPANS", NOWHERE, SIXTY_LINES, "of 0 0 1 " + what, 0);
    }
    Object[] at = {THREE, LINES_AT_ENDS};
    int[][] due = {
      // KEYS more, READ, FALL, COST, STILL by n 1, 2, 3, 40
      {780, 8, 4, 12, 3}, {190, 6, 2, 14, 3}, {0, 4, 0, 16, 0}, {0, 4, 0, 16, 0}
    };
    int[] sizes = {1, 2, 3, 40};
    for (int i = 0; i < sizes.length; i++) {
      for (int what = 0; what <= 4; what++) {
        edge("36 by " + sizes[i], at, "of 2 0 " + sizes[i] + " " + what, due[i][what]);
      }
    }
    edge("36 KEYS more: none in a PLAN of all KEYS", EVERYWHERE, "of 3 0 1 0", 0);
    edge("36 KEYS more: all but both ends", AT_BOTH_ENDS, "of 6 0 1 0", 998);
    edge("36 READ: no LINES", EVERYWHERE, "of 3 0 1 1", 0);
    edge("36 READ: all sixty", EVERYWHERE, SIXTY_LINES, "of 3 0 1 1", 60);
    edge("36 READ: at the first KEY", AT_FIRST, "line 0 0 0", "line 0 0 1", "of 4 0 1 1", 1);
    edge("36 READ: at the last KEY", AT_LAST, "line 9 9 9", "line 9 9 8", "of 0 0 1 1", 1);
    edge("36 FALL: none of sixty", EVERYWHERE, SIXTY_LINES, "of 3 0 1 2", 0);
    edge("36 FALL: all of sixty", AT_BOTH_ENDS, SIXTY_LINES, "of 6 0 1 2", 60);
    edge("36 FALL: those in DOUBT, too", "test 2 3 5", "line 1 1 0", "of 0 0 1 2", 1);
    edge("36 COST: PRICE 0", at, "price 0", "of 2 0 3 3", 4);
    edge("36 COST: PRICE 20", at, "price 20", "of 2 0 3 3", 64);
    edge("36 COST: PRICE 20, forty SPANS", FORTY, "price 20", "of 0 0 40 3", 800);
    edge("36 COST: how many SPANS the PLAN has, not n", THREE, "of 2 0 40 3", 12);
    edge("36 COST: all sixty, and no LINE twice", EVERYWHERE, SIXTY_LINES, "of 3 0 40 3", 64);
  }

  private void ofStill36() {
    edge("36 STILL: nothing joined, nothing of an AND", THREE, "of 2 0 3 4", 0);
    edge("36 STILL: one PART of two", THREE, "of 2 2 1 4", 1);
    edge("36 STILL: the other PART of two", "tape b[1 3 9]&a?", "cond", "of 2 0 1 4", 1);
    edge("36 STILL: itself, if no AND", "tape a=1|a=3", "cond", "of 2 0 1 4", 4);
    edge("36 STILL: itself, nothing joined", "tape a=1|a=3", "cond", "of 2 0 2 4", 0);
    edge("36 STILL: the first CONDITION", "among 0 10", "of 0 0 1 4", 1);
    edge("36 STILL: the last CONDITION", "23 gone 0", "among 0 10", 23, "of 23 0 1 4", 1 << 23);
    edge("36 STILL: not TRUE for one KEY alone", "tape a[1 2 3]&-+abc=255", "cond",
        "of 4 0 1 4", 8);
    edge("36 STILL: not TRUE for a KEY beyond all SPANS", "tape a[1 2 3]&-+abc=455", "cond",
        "of 4 0 1 4", 0);
    edge("36 STILL: a PART in DOUBT", "tape a=1&c~5", "cond", "of 2 0 1 4", 2);
  }

  private void bestRefused37() {
    condAndIndex("37", "best COND INDEX 0");
    range("37 what", WORLD, "best 4 0 #", 0, 1);
    edge("37 all three BAD", WORLD, "best 7 6 2", BAD);
  }

  private void best37() {
    edge("37 no SPANS: the least n", NOWHERE, SIXTY_LINES, "best 0 0 0", 1);
    edge("37 no SPANS: no COST", NOWHERE, SIXTY_LINES, "best 0 0 1", 0);
    edge("37 no LINES: one SPAN", THREE, "best 2 0 0", 1);
    edge("37 no LINES: its PRICE", THREE, "best 2 0 1", 4);
    edge("37 no LINES, PRICE 0: of several the least n", THREE, "price 0", "best 2 0 0", 1);
    edge("37 no LINES, PRICE 0: no COST", THREE, "price 0", "best 2 0 1", 0);
    edge("37 three LINES between: one SPAN is less", THREE, "3 line 5 5 5", "best 2 0 0", 1);
    edge("37 three LINES between: COST", THREE, "3 line 5 5 5", "best 2 0 1", 7);
    edge("37 four LINES between: the same, the least n", THREE, "4 line 5 5 5", "best 2 0 0", 1);
    edge("37 four LINES between: COST", THREE, "4 line 5 5 5", "best 2 0 1", 8);
    edge("37 five LINES between: two SPANS are less", THREE, "5 line 5 5 5", "best 2 0 0", 2);
    edge("37 five LINES between: COST", THREE, "5 line 5 5 5", "best 2 0 1", 8);
    edge("37 five LINES in each gap: three SPANS", THREE, "5 line 5 5 5", "5 line 2 2 2",
        "best 2 0 0", 3);
    edge("37 five LINES in each gap: COST", THREE, "5 line 5 5 5", "5 line 2 2 2",
        "best 2 0 1", 12);
    edge("37 four in the narrow gap, nine in the wide one", THREE, "9 line 5 5 5", "4 line 2 2 2",
        "best 2 0 0", 2);
    edge("37 asked again, the wide gap", THREE, "3 line 5 5 5", "best 2 0 1", 7, "best 2 0 1", 7);
    edge("37 asked again, the narrow gap", THREE, "3 line 2 2 2", "best 2 0 1", 7, "best 2 0 1", 7);
    edge("37 no SPANS behind some", THREE, "gone 0", "test 0 0 1", 4, "best 2 0 1", 4, "best 4 0 1",
        0);
    edge("37 no SPANS behind some: n", THREE, "test 0 0 1", 3, "10 line 5 5 5", "best 2 0 0", 2,
        "best 3 0 0", 1);
    edge("37 PRICE 20, sixty LINES between", THREE, "price 20", "60 line 5 5 5", "best 2 0 1", 40);
    edge("37 LINES that it is TRUE for are READ in any case", THREE, "60 line 9 0 0", "best 2 0 1",
        64);
  }

  private void bestAtMostForty37() {
    Object[] forty = {FORTY, "price 0", "line 0 2 5"}; // in the gap that 39 SPANS join
    edge("37 n 40", forty, "best 0 0 0", 40);
    edge("37 n 40: COST", forty, "best 0 0 1", 0);
    Object[] more = {FORTY_ONE, "price 0", "line 0 2 5"}; // all PLANS read it
    edge("37 no n 41, the least of all n alike", more, "best 2 0 0", 1);
    edge("37 no n 41: COST", more, "best 2 0 1", 1);
    Object[] next = {more, "line 0 4 5"}; // all but that by 40 read this one, too
    edge("37 n 40 of 41 RUNS", next, "best 2 0 0", 40);
    edge("37 n 40 of 41 RUNS: COST", next, "best 2 0 1", 1);
    // By 40 the gaps up to KEY 920 are joined, by 39 that of KEY 922, too.
    edge("37 n 40 of 500 RUNS", "rest 2 2 1", "price 0", "60 line 9 2 2", "best 0 0 0", 40);
    edge("37 n 40 of 500 RUNS: COST", "rest 2 2 1", "price 0", "60 line 9 2 2", "best 0 0 1", 0);
    edge("37 n 39 of 500 RUNS", "rest 2 2 1", "price 0", "60 line 9 2 4", "best 0 0 0", 39);
    edge("37 n 1 of 500 RUNS", "rest 2 2 1", "price 0", "60 line 9 2 0", "best 0 0 1", 60);
  }

  private void bestIndex38() {
    range("38 cond: the CONDITIONS there are", WORLD, "bestIndex # 0", 0, EACH_COND);
    range("38 what", WORLD, "bestIndex 4 #", 0, 1);
    edge("38 no CONDITIONS", "bestIndex 0 0", BAD);
    edge("38 no SPANS: the first", NOWHERE, SIXTY_LINES, "bestIndex 0 0", 0);
    edge("38 no SPANS: no COST", NOWHERE, SIXTY_LINES, "bestIndex 0 1", 0);
    edge("38 no LINES: of several the first", "test 2 1 5", "bestIndex 0 0", 0);
    edge("38 no LINES: one SPAN's PRICE", "test 2 1 5", "bestIndex 0 1", 4);
    edge("38 no LINES, PRICE 0", "test 2 1 5", "price 0", "bestIndex 0 1", 0);
    edge("38 two that are least: the first of them", "test 2 1 5", "line 5 5 6",
        "bestIndex 0 0", 4);
    edge("38 the first INDEX alone", "tape ab<55", "cond", "line 5 8 5", "bestIndex 0 0", 0);
    edge("38 the last INDEX alone", "tape cb<55", "cond", "line 5 8 5", "bestIndex 0 0", 5);
    edge("38 the last INDEX alone: COST", "tape cb<55", "cond", "line 5 8 5", "bestIndex 0 1", 4);
  }

  private void seekRefused39() {
    condAndIndex("39", "seek COND INDEX 500 0");
    range("39 what", WORLD, "seek 4 0 500 #", 0, 1);
    int[] any = {MIN, -1001, -2, -1, 0, 999, 1000, MAX};
    for (int key : any) {
      edge("39 any number is a key, up", WORLD, "seek 4 0 " + key + " 0");
      edge("39 any number is a key, down", WORLD, "seek 4 0 " + key + " 1");
    }
    edge("39 BAD what with any key", WORLD, "seek 4 0 1000 2", BAD);
    edge("39 BAD cond with any key", WORLD, "seek 7 0 -1 0", BAD);
  }

  /** From a key on: up, and down. */
  private void sought(String sentence, Object scene, int cond, int key, int up, int down) {
    edge("39 " + sentence + ", up from " + key, scene, "seek " + cond + " 0 " + key + " 0", up,
        "status 12", 0);
    edge("39 " + sentence + ", down from " + key, scene, "seek " + cond + " 0 " + key + " 1", down,
        "status 12", 0);
  }

  private void seek39() {
    int[] keys = {MIN, -1, 0, 500, 999, 1000, MAX};
    for (int key : keys) {
      sought("nowhere", NOWHERE, 0, key, NONE, NONE);
    }
    sought("everywhere", EVERYWHERE, 3, MIN, 0, NONE);
    sought("everywhere", EVERYWHERE, 3, -1, 0, NONE);
    sought("everywhere", EVERYWHERE, 3, 0, 0, 0);
    sought("everywhere", EVERYWHERE, 3, 999, 999, 999);
    sought("everywhere", EVERYWHERE, 3, 1000, NONE, 999);
    sought("everywhere", EVERYWHERE, 3, MAX, NONE, 999);
    sought("at both ends", AT_BOTH_ENDS, 6, -1, 0, NONE);
    sought("at both ends", AT_BOTH_ENDS, 6, 0, 0, 0);
    sought("at both ends", AT_BOTH_ENDS, 6, 1, 999, 0);
    sought("at both ends", AT_BOTH_ENDS, 6, 998, 999, 0);
    sought("at both ends", AT_BOTH_ENDS, 6, 999, 999, 999);
    sought("at both ends", AT_BOTH_ENDS, 6, 1000, NONE, 999);
    sought("one span of several", THREE, 2, 299, 300, 109);
    sought("one span of several", THREE, 2, 300, 300, 300);
    sought("one span of several", THREE, 2, 309, 309, 309);
    sought("one span of several", THREE, 2, 310, 900, 309);
    sought("behind the last", THREE, 2, 910, NONE, 909);
    sought("ahead of the first", THREE, 2, 99, 100, NONE);
    edge("39 by another INDEX, up", "gone 0", "seek 0 5 1 0", 10);
    edge("39 by another INDEX, down", "gone 0", "seek 0 5 999 1", 990);
  }

  private void leadersRefused40() {
    condAndIndex("40", "leaders COND INDEX 1 0");
    range("40 k", WORLD, "leaders 4 0 # 0", 1, 2);
    range("40 k, of LINES", WORLD, "leaders 4 0 # 1", 1, 2);
    range("40 what", WORLD, "leaders 4 0 1 #", 0, 1);
    edge("40 k and what BAD", WORLD, "leaders 4 0 3 2", BAD);
  }

  private void leaders40() {
    for (int k = 1; k <= 2; k++) {
      edge("40 nowhere", NOWHERE, SIXTY_LINES, "leaders 0 0 " + k + " 0", 0);
      edge("40 nowhere, of LINES", NOWHERE, SIXTY_LINES, "leaders 0 0 " + k + " 1", 0);
      edge("40 everywhere", EVERYWHERE, "leaders 3 0 " + k + " 0", k == 1 ? 10 : 100);
      edge("40 everywhere, no LINES", EVERYWHERE, "leaders 3 0 " + k + " 1", 0);
      edge("40 sixty LINES of one KEY", EVERYWHERE, SIXTY_LINES, "leaders 3 0 " + k + " 1", 1);
      edge("40 at the first KEY", AT_FIRST, "leaders 4 0 " + k + " 0", 1);
      edge("40 at both ends", AT_BOTH_ENDS, "leaders 6 0 " + k + " 0", 2);
    }
    Object[] digits = {EVERYWHERE, "line 0 0 5", "line 0 5 0", "line 5 0 0"};
    edge("40 as KEYS of three digits, one", digits, "leaders 3 0 1 1", 2);
    edge("40 as KEYS of three digits, two", digits, "leaders 3 0 2 1", 3);
    edge("40 as KEYS of three digits, by another INDEX", digits, "leaders 3 5 2 1", 3);
    edge("40 LINES for which it isn't TRUE don't count", "test 0 1 5", "line 5 1 1", "line 4 1 1",
        "line 0 1 1", "leaders 0 0 1 1", 1);
    edge("40 KEYS that no LINE has count", "test 0 1 5", "leaders 0 0 2 0", 10);
    edge("40 the last two digits are no matter for one", "tape a=5&b=c", "cond",
        "leaders 2 0 1 0", 1);
    edge("40 the last digit is no matter for two", "tape a=5&b=6", "cond", "leaders 2 0 2 0", 1);
    edge("40 the first and the last KEY of a leader", "tape abc=199|a=1&b?", "cond", 4,
        "leaders 4 0 1 0", 1);
    edge("40 the last KEY of a leader and the first of the next", "tape abc=199|a=2&b?", "cond", 4,
        "leaders 4 0 1 0", 2);
    edge("40 the first and the last KEY of two digits", "tape abc=129|a=1&b=2&c?", "cond", 6,
        "leaders 6 0 2 0", 1);
    edge("40 the last KEY of two digits and the first of the next", "tape abc=129|a=1&b=3&c?",
        "cond", 6, "leaders 6 0 2 0", 2);
    edge("40 none behind all", EVERYWHERE, "leaders 3 0 2 0", 100, "leaders 3 0 2 1", 0);
    edge("40 KEYS of no LINES behind all", EVERYWHERE, "leaders 3 0 2 0", 100, "status 3", 0);
    edge("40 no LINES behind a first KEY", EVERYWHERE, "line 0 0 0", "leaders 3 0 1 1", 1,
        "strike 0", "leaders 3 0 1 1", 0);
  }
}
