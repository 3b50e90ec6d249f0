/** The edges of promises 41 to 50: LINES found, CONDITIONS against others, LINES told. */
public final class EdgeFoundTest extends Edges {
  private static final int EACH_COND = 6;

  /** FOUND by CONDITION 0 in INDEX 0: 4 1 5 0 2; not 3 (FALSE), not 6 (DOUBT). */
  private static final String[] SOME = {
    "test 0 0 9", "line 3 1 2", "line 1 2 1", "line 3 1 2", "line 9 1 1", "line 1 1 2",
    "line 2 1 1", "line 0 1 2"
  };
  private static final String[] SIXTY_FOUND = {"test 0 1 1", SIXTY_LINES};

  /** What they have in a: 3, 5, 7, MISSING. */
  private static final String[] FOUR_LINES = {
    "line 3 1 1", "line 5 1 1", "line 7 1 1", "line 0 1 1"
  };

  private EdgeFoundTest() {
    super("EdgeFoundTest");
  }

  public static void main(String[] args) {
    EdgeFoundTest test = new EdgeFoundTest();
    test.found41();
    test.order42();
    test.behind43();
    test.implies44();
    test.alike45();
    test.same46();
    test.signsRefused47();
    test.signsGrounds47();
    test.signs47();
    test.judgeRefused48();
    test.judge48();
    test.judgeMany48();
    test.many49();
    test.whatIf50();
    test.end();
  }

  private void condAndIndex(String promise, String call) {
    range(promise + " cond: the CONDITIONS there are", WORLD, call.replace("COND", "#")
        .replace("INDEX", "0"), 0, EACH_COND);
    range(promise + " INDEX", WORLD, call.replace("COND", "5").replace("INDEX", "#"), 0, 5);
    edge(promise + " no CONDITIONS", SIXTY_LINES, call.replace("COND", "0").replace("INDEX", "0"),
        BAD);
  }

  private void found41() {
    condAndIndex("41", "found COND INDEX -1");
    range("41 i, or NONE", SOME, "found 0 0 #", -1, 4);
    range("41 i of sixty, or NONE", SIXTY_FOUND, "found 0 0 #", -1, 59);
    range("41 none found: only NONE", NOT_FOUND, "found 0 0 #", -1, -1);
    range("41 no LINES: only NONE", "test 0 1 1", "found 0 0 #", -1, -1);
    edge("41 how many", SOME, "found 0 0 -1", 5);
    edge("41 how many, all sixty", SIXTY_FOUND, "found 0 0 -1", 60);
    edge("41 how many, none", NOT_FOUND, "found 0 0 -1", 0);
    edge("41 how many, no LINES", "test 0 1 1", "found 0 0 -1", 0);
    edge("41 NONE isn't refused", SOME, "found 0 0 -1", 5, "status 12", 0);
    edge("41 the least KEY first", SOME, "found 0 0 0", 4);
    edge("41 of the same KEY the lesser number first", SOME, "found 0 0 3", 0);
    edge("41 of the same KEY the greater number then", SOME, "found 0 0 4", 2);
    edge("41 the first of sixty of one KEY", SIXTY_FOUND, "found 0 0 0", 0);
    edge("41 the last of sixty of one KEY", SIXTY_FOUND, "found 0 0 59", 59);
    edge("41 the least and the greatest KEY", "tape a?|-a?", "cond", "line 9 9 9", "line 0 0 0",
        "found 3 0 0", 1, "found 3 0 1", 0);
    edge("41 a LINE in DOUBT isn't found", "test 0 0 9", "line 0 1 1", "found 0 0 -1", 0);
  }

  private static final String[] NOT_FOUND = {"test 0 0 1", SIXTY_LINES};

  private void order42() {
    Object[] scene = {"3 test 0 1 1", "line 1 1 1"};
    range("42 cond: the CONDITIONS there are", scene, "order # 0 0 0", 0, 2);
    range("42 INDEX", scene, "order 2 # 0 0", 0, 5);
    edge("42 no CONDITIONS", SIXTY_LINES, "order 0 0 0 0", BAD);
    range("42 k", SOME, "order 0 0 # 0", 0, 2);
    for (int k = 0; k <= 2; k++) {
      range("42 i, not NONE", SOME, "order 0 0 " + k + " #", 0, 4);
      edge("42 none found", NOT_FOUND, "order 0 0 " + k + " 0", BAD);
      edge("42 no LINES", "test 0 1 1", "order 0 0 " + k + " 0", BAD);
      edge("42 all alike: by number, the first", SIXTY_FOUND, "order 0 0 " + k + " 0", 0);
      edge("42 all alike: by number, the last", SIXTY_FOUND, "order 0 0 " + k + " 59", 59);
      edge("42 behind all sixty", SIXTY_FOUND, "order 0 0 " + k + " 60", BAD);
    }
    edge("42 k and i BAD", SOME, "order 0 0 3 5", BAD);
    int[][] due = {{4, 1, 5, 0, 2}, {5, 4, 0, 2, 1}, {1, 5, 4, 0, 2}};
    for (int k = 0; k <= 2; k++) {
      for (int i = 0; i <= 4; i++) {
        edge("42 by k " + k, SOME, "order 0 0 " + k + " " + i, due[k][i]);
      }
    }
    Object[] ends = {"tape a?|-a?", "cond", "line 9 0 0", "line 0 9 0", "line 0 0 9", "line 0 0 0"};
    int[][] dueAtEnds = {{3, 2, 1, 0}, {3, 0, 2, 1}, {3, 1, 0, 2}};
    for (int k = 0; k <= 2; k++) {
      for (int i = 0; i <= 3; i++) {
        edge("42 the least and the greatest digits by k " + k, ends, "order 3 0 " + k + " " + i,
            dueAtEnds[k][i]);
      }
    }
  }

  private void behind43() {
    condAndIndex("43", "behind COND INDEX 0");
    range("43 the LINES there are", WORLD, "behind 5 0 #", 0, 2);
    edge("43 no LINES", "test 0 1 1", "behind 0 0 0", BAD);
    edge("43 behind sixty", SIXTY_FOUND, "behind 0 0 60", BAD);
    edge("43 the next KEY", SOME, "behind 0 0 4", 1);
    edge("43 the same KEY, the greater number", SOME, "behind 0 0 0", 2);
    edge("43 NONE behind the last", SOME, "behind 0 0 2", NONE, "status 12", 0);
    edge("43 NONE behind one that isn't FOUND", SOME, "behind 0 0 3", NONE, "status 12", 0);
    edge("43 behind one that isn't FOUND", SOME, "behind 0 0 6", 4);
    edge("43 one that isn't FOUND, of the same KEY and lesser number", "2 line 1 1 1",
        "tape b=1&c=1", "cond", "behind 2 0 0", 1);
    edge("43 NONE is FOUND", NOT_FOUND, "behind 0 0 0", NONE);
    edge("43 only itself is FOUND", "test 0 1 1", "line 1 1 1", "behind 0 0 0", NONE);
    edge("43 sixty of one KEY", SIXTY_FOUND, "behind 0 0 58", 59);
    edge("43 the last of sixty of one KEY", SIXTY_FOUND, "behind 0 0 59", NONE);
    edge("43 the first of sixty of one KEY", SIXTY_FOUND, "behind 0 0 0", 1);
    edge("43 from the least KEY to the greatest", "tape a?|-a?", "cond", "line 9 9 9", "line 0 0 0",
        "behind 3 0 1", 0);
    edge("43 a lesser number of the next KEY", "test 2 0 9", "line 1 1 2", "line 1 1 1",
        "behind 0 0 1", 0);
    edge("43 line and cond BAD", WORLD, "behind 7 0 3", BAD);
  }

  private void implies44() {
    range("44 x", WORLD, "implies # 0", 0, EACH_COND);
    range("44 y", WORLD, "implies 0 #", 0, EACH_COND);
    refused("44 no CONDITIONS", NO_SCENE, "implies # 0", BAD, -1, 0);
    edge("44 NONE: itself", WORLD, "implies 5 5", NONE, "status 12", 0);
    edge("44 NONE: x is never TRUE", "test 0 0 1", "gone 0", "implies 0 1", NONE);
    edge("44 NONE: y is always TRUE", "tape a?|-a?", "cond", "implies 0 3", NONE);
    edge("44 the first KEY", "tape a?&b?&c?", "cond", "test 0 0 1", "implies 4 5", 0);
    edge("44 the last KEY", "tape abc=999", "cond", "test 0 0 1", "implies 0 1", 999);
    edge("44 y in DOUBT isn't TRUE", "gone 0", "test 0 1 5", "implies 0 1", 0);
    edge("44 x in DOUBT where y is FALSE", "test 0 1 5", "tape +a=5", "cond", "implies 0 2", NONE);
    edge("44 not the other way about", "test 0 0 5", "test 0 0 6", "implies 0 1", NONE,
        "implies 1 0", 500);
  }

  private void alike45() {
    range("45 x", WORLD, "alike # 0", 0, EACH_COND);
    range("45 y", WORLD, "alike 0 #", 0, EACH_COND);
    refused("45 no CONDITIONS", NO_SCENE, "alike # 0", BAD, -1, 0);
    edge("45 NONE: itself", WORLD, "alike 5 5", NONE, "status 12", 0);
    edge("45 NONE: another", "gone 0", "gone 0", "alike 0 1", NONE);
    edge("45 the first KEY", "tape +a<1|a?&b?&c?", "cond", "alike 1 7", 0);
    edge("45 the last KEY", "tape ++abc=999", "cond", "tape +a<1", "cond", "alike 1 4", 999);
    edge("45 DOUBT and FALSE aren't the same", "tape +a=5", "cond", "alike 0 1", 0);
    edge("45 DOUBT and TRUE aren't the same", "tape a=5|a?", "cond", "alike 0 2", 0);
    edge("45 FALSE and TRUE aren't the same", "gone 0", "turn 8 0", "alike 0 1", 0);
  }

  private void same46() {
    range("46 cond: the CONDITIONS there are", WORLD, "same #", 0, EACH_COND);
    refused("46 no CONDITIONS", NO_SCENE, "same #", BAD, -1, 0);
    edge("46 its own: the first", "gone 0", "same 0", 0);
    edge("46 its own: no other one", "gone 0", "gone 1", "same 1", 1);
    edge("46 its own, even if there is a greater one", "gone 0", "gone 1", "gone 1", "same 1", 1);
    edge("46 the least of several", "gone 1", "3 gone 0", "same 3", 1);
    edge("46 the first of all", ALL_CONDITIONS, "same 23", 0);
    edge("46 one KEY alone isn't the same", "tape +abc=999", "cond", "tape +abc>998", "cond",
        "tape +a<1", "cond", "same 3", 1, "same 5", 5);
    edge("46 DOUBT isn't FALSE", "test 0 1 5", "turn 9 0", "same 1", 1);
  }

  private void signsRefused47() {
    Object[] row = {FOUR_LINES, "row 0 2 40", "gone 0", "show 1 0"};
    range("47 COLUMN", row, "signs # 5 0 1", 0, 2);
    range("47 VALUE", row, "signs 0 # 0 1", 1, 9);
    refused("47 BAD SHELF", row, "signs 0 5 # 1", BAD, -1, 8, MIN, MAX);
    range("47 n", row, "signs 0 5 0 #", 0, 20);
    for (int n = 0; n <= 20; n += 20) {
      edge("47 OTHER: a CONDITION", row, "signs 0 5 1 " + n, OTHER);
      edge("47 NOTHING", row, "signs 0 5 2 " + n, NOTHING);
    }
    edge("47 BAD: 39 elements for 20 twos", FOUR_LINES, "row 0 2 39", "signs 0 5 0 20", BAD);
    edge("47 just 20 twos", FOUR_LINES, "row 0 2 40", "signs 0 3 0 20", 13);
    edge("47 BAD: one element for one two", FOUR_LINES, "row 0 2 1", "signs 0 5 0 1", BAD);
    edge("47 just one two", FOUR_LINES, "row 0 2 2", "signs 0 3 0 1", 13);
    edge("47 BAD: no elements for one two", FOUR_LINES, "row 0 2 0", "signs 0 5 0 1", BAD);
    edge("47 no elements, none told", FOUR_LINES, "row 0 2 0", "signs 0 5 0 0", 15);
    String[] stuck = {
      "-1 0", "4 0", "60 1", "0 2", "0 -1", "4294967296 0", "4294967297 1", "0 4294967296",
      "0 4294967297", "-9223372036854775808 0", "0 9223372036854775807"
    };
    for (String told : stuck) {
      edge("47 STUCK: " + told, FOUR_LINES, "tell 0 3 " + told, "signs 0 5 0 1", STUCK);
      edge("47 STUCK, the last of two: " + told, FOUR_LINES, "tell 0 3 0 0 " + told,
          "signs 0 5 0 2", STUCK);
      edge("47 behind the first n twos: " + told, FOUR_LINES, "tell 0 3 0 0 " + told,
          "signs 0 3 0 1", 13);
    }
    edge("47 STUCK even if no SIGN can be any more", FOUR_LINES, "tell 0 2 3 1 4 0",
        "signs 0 5 0 2", STUCK);
    edge("47 no LINES, none told", "row 0 2 40", "signs 0 5 0 0", 15);
    edge("47 STUCK: no LINES", "row 0 2 40", "signs 0 5 0 1", STUCK);
    edge("47 the last of sixty LINES", SIXTY_LINES, "tell 0 2 59 1", "signs 0 1 0 1", 2);
    edge("47 STUCK: behind sixty LINES", SIXTY_LINES, "tell 0 2 60 1", "signs 0 1 0 1", STUCK);
  }

  private void signsGrounds47() {
    Object[] row = {FOUR_LINES, "tell 0 2 9 9", "gone 0", "show 1 0"};
    String[] bad = {"3 5 # 1", "-1 5 # 1", "0 0 # 1", "0 10 # 1", "0 5 # -1", "0 5 # 21"};
    for (String told : bad) {
      edge("47 BAD ahead of STUCK " + told, row, "signs " + told.replace("#", "0"), BAD);
      edge("47 BAD ahead of OTHER " + told, row, "signs " + told.replace("#", "1"), BAD);
      edge("47 BAD ahead of NOTHING " + told, row, "signs " + told.replace("#", "2"), BAD);
    }
    edge("47 BAD SHELF and BAD n", row, "signs 0 5 8 21", BAD);
    edge("47 BAD, fewer elements, ahead of STUCK", row, "signs 0 5 0 2", BAD);
    edge("47 STUCK then", row, "signs 0 5 0 1", STUCK);
  }

  /** The SIGNS by which a TEST of a and 5 is TRUE for just these of FOUR_LINES. */
  private void signs(String sentence, String told, int n, int due) {
    edge("47 " + sentence, FOUR_LINES, "tell 0 2 " + told, "signs 0 5 0 " + n, due);
  }

  private void signs47() {
    signs("none told: all SIGNS", "0 1", 0, 15);
    signs("less, TRUE", "0 1", 1, 9);
    signs("less, not", "0 0", 1, 6);
    signs("equal, TRUE", "1 1", 1, 2);
    signs("equal, not", "1 0", 1, 13);
    signs("greater, TRUE", "2 1", 1, 12);
    signs("greater, not", "2 0", 1, 3);
    signs("MISSING, TRUE: no SIGN", "3 1", 1, 0);
    signs("MISSING, not: all SIGNS", "3 0", 1, 15);
    signs("one SIGN alone, <", "0 1 2 0", 2, 1);
    signs("one SIGN alone, =", "1 1 0 0 2 0 3 0", 4, 2);
    signs("one SIGN alone, >", "2 1 0 0", 2, 4);
    signs("one SIGN alone, ~", "0 1 2 1", 2, 8);
    signs("a LINE told twice", "0 1 0 1", 2, 9);
    signs("a LINE told both ways: no SIGN", "0 1 0 0", 2, 0);
    signs("LINES that aren't told are no matter", "1 0", 1, 13);
    edge("47 the least VALUE: none is less", FOUR_LINES, "tell 0 2 0 1", "signs 0 1 0 1", 12);
    edge("47 the greatest VALUE: none is greater", FOUR_LINES, "tell 0 2 0 1", "signs 0 9 0 1", 9);
    edge("47 by booleans", FOUR_LINES, "tell 0 4 1 1", "signs 0 5 0 1", 2);
  }

  private void judgeRefused48() {
    condAndIndex("48", "judge COND INDEX 5 0");
    Object[] row = {SOME, "row 0 2 40", "show 1 0", "tell 3 2 4 1"};
    refused("48 BAD SHELF", row, "judge 0 0 # 1", BAD, -1, 8, MIN, MAX);
    range("48 n", row, "judge 0 0 0 #", 0, 40);
    for (int n = 0; n <= 40; n += 40) {
      edge("48 OTHER: a CONDITION", row, "judge 0 0 1 " + n, OTHER);
      edge("48 NOTHING", row, "judge 0 0 2 " + n, NOTHING);
    }
    edge("48 BAD: fewer elements", row, "judge 0 0 3 3", BAD);
    edge("48 just as many elements", row, "judge 0 0 3 2", 2);
    edge("48 BAD: 39 elements for 40", SOME, "row 0 2 39", "judge 0 0 0 40", BAD);
    edge("48 BAD: no elements for one", SOME, "row 0 2 0", "judge 0 0 0 1", BAD);
    String[] bad = {"1 0 # 1", "-1 0 # 1", "0 6 # 1", "0 -1 # 1", "0 0 # -1", "0 0 # 41"};
    for (String told : bad) {
      edge("48 BAD ahead of OTHER " + told, row, "judge " + told.replace("#", "1"), BAD);
      edge("48 BAD ahead of NOTHING " + told, row, "judge " + told.replace("#", "2"), BAD);
    }
    edge("48 BAD SHELF and BAD n", row, "judge 0 0 8 41", BAD);
  }

  private void judge48() {
    edge("48 just so", SOME, "tell 0 2 4 1 5 0 2", "judge 0 0 0 5", NONE, "status 12", 0);
    edge("48 another at the first place", SOME, "tell 0 2 1 4 5 0 2", "judge 0 0 0 5", 0);
    edge("48 another at the last place", SOME, "tell 0 2 4 1 5 0 6", "judge 0 0 0 5", 4);
    edge("48 the same KEY, but not by number", SOME, "tell 0 2 4 1 5 2 0", "judge 0 0 0 5", 3);
    edge("48 none any more", SOME, "tell 0 2 4 1 5 0 2 3", "judge 0 0 0 6", 5);
    edge("48 none any more, as told -1", SOME, "tell 0 2 4 1 5 0 2 -1", "judge 0 0 0 6", 5);
    edge("48 more", SOME, "tell 0 2 4 1 5 0 2", "judge 0 0 0 4", 4);
    edge("48 more, none told", SOME, "row 0 2 0", "judge 0 0 0 0", 0);
    edge("48 none found, none told", NOT_FOUND, "row 0 2 0", "judge 0 0 0 0", NONE);
    edge("48 none found, one told", NOT_FOUND, "row 0 2 1", "judge 0 0 0 1", 0);
    edge("48 no LINES, none told", "test 0 1 1", "row 0 2 0", "judge 0 0 0 0", NONE);
    edge("48 elements behind n are no matter", SOME, "tell 0 2 4 1 5 0 2 9 9", "judge 0 0 0 5",
        NONE);
    String[] noLines = {"-1", "7", "60", "4294967300", "-9223372036854775804"};
    for (String told : noLines) {
      edge("48 what is no LINE is another: " + told, SOME, "tell 0 3 " + told, "judge 0 0 0 1", 0,
          "status 15", 0);
    }
    edge("48 by booleans", "test 0 1 1", "2 line 1 1 1", "tell 0 4 0 1", "judge 0 0 0 2", NONE);
  }

  private void judgeMany48() {
    StringBuilder forty = new StringBuilder("tell 0 2");
    for (int line = 0; line < 40; line++) {
      forty.append(' ').append(line);
    }
    edge("48 just forty", "test 0 1 1", "40 line 1 1 1", forty.toString(), "judge 0 0 0 40", NONE);
    edge("48 forty of 39", "test 0 1 1", "39 line 1 1 1", forty.toString(), "judge 0 0 0 40", 39);
    edge("48 forty of sixty", SIXTY_FOUND, forty.toString(), "judge 0 0 0 40", 40);
    edge("48 39 of sixty", SIXTY_FOUND, forty.toString(), "judge 0 0 0 39", 39);
    edge("48 forty, another at the last place", SIXTY_FOUND, forty.toString(), "set 0 39 40",
        "judge 0 0 0 40", 39);
  }

  private void many49() {
    range("49 COLUMN", WORLD, "many # 1", 0, 2);
    range("49 VALUES or MISSING", WORLD, "many 0 #", 0, 9);
    edge("49 both BAD", WORLD, "many 3 10", BAD);
    edge("49 no LINES", "many 0 0", 0);
    edge("49 none", WORLD, "many 0 9", 0);
    edge("49 all sixty", SIXTY_LINES, "many 2 3", 60);
    edge("49 MISSING", WORLD, "many 2 0", 1);
    edge("49 the greatest", WORLD, "many 2 9", 1);
    edge("49 only in that COLUMN", "line 1 2 2", "many 0 2", 0, "many 1 2", 1);
  }

  private void whatIf50() {
    range("50 cond: the CONDITIONS there are", WORLD, "whatIf # 0 0 0", 0, EACH_COND);
    range("50 the LINES there are", WORLD, "whatIf 0 # 0 0", 0, 2);
    range("50 COLUMN", WORLD, "whatIf 0 0 # 0", 0, 2);
    range("50 VALUES or MISSING", WORLD, "whatIf 1 2 0 #", 0, 9);
    edge("50 no LINES", "test 0 1 1", "whatIf 0 0 0 1", BAD);
    edge("50 no CONDITIONS", SIXTY_LINES, "whatIf 0 0 0 1", BAD);
    edge("50 behind sixty LINES", SIXTY_FOUND, "whatIf 0 60 0 1", BAD);
    edge("50 all four BAD", WORLD, "whatIf 7 3 3 10", BAD);
    edge("50 one less of sixty", SIXTY_FOUND, "whatIf 0 59 0 2", 59);
    edge("50 one less of sixty, in DOUBT", SIXTY_FOUND, "whatIf 0 0 0 0", 59);
    edge("50 what it has already", SIXTY_FOUND, "whatIf 0 30 0 1", 60);
    edge("50 another COLUMN", SIXTY_FOUND, "whatIf 0 30 2 9", 60);
    edge("50 one more than none", "test 0 1 9", SIXTY_LINES, "whatIf 0 59 0 9", 1);
    edge("50 MISSING then", "gone 2", SIXTY_LINES, "whatIf 0 0 2 0", 1);
    edge("50 nothing is changed", SIXTY_FOUND, "whatIf 0 59 0 2", 59, "lineOf 59 0", 1,
        "lines 0 1", 60);
    edge("50 nothing is changed, where it was MISSING", "test 0 1 9", "line 0 1 1",
        "whatIf 0 0 0 9", 1, "lineOf 0 0", 0, "lines 0 1", 0);
  }
}
