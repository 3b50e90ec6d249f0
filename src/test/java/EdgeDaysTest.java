/** The edges of promises 51 to 55, of THE TABLE's numbers, and of the 512 calls of an object. */
public final class EdgeDaysTest extends Edges {
  private EdgeDaysTest() {
    super("EdgeDaysTest");
  }

  public static void main(String[] args) {
    EdgeDaysTest test = new EdgeDaysTest();
    test.days51();
    test.daysOfManyLines51();
    test.draws51();
    test.seed52();
    test.image53();
    test.back54();
    test.backToShelves54();
    test.status55();
    test.statusOfRefusals55();
    test.calls512();
    test.end();
  }

  private void days51() {
    range("51 n", WORLD, "days #", 1, 60);
    edge("51 one DAY, one LINE", "days 1", 1, "keyOf 0 0", 863, "keyOf 1 0", BAD);
    edge("51 two DAYS", "days 2", 2, "keyOf 1 0", 958, "status 6", -1661227463);
    edge("51 one DAY and one more", "2 days 1", 2, "keyOf 1 0", 958, "status 6", -1661227463);
    edge("51 sixty DAYS", "days 60", 51, "keyOf 50 0", 372, "status 6", -2091716914);
    edge("51 one DAY sixty times", "60 days 1", 51, "keyOf 50 0", 372, "status 6", -2091716914);
  }

  private void daysOfManyLines51() {
    edge("51 none, and none behind it: it is struck", "seed 3", "days 1", 0, "status 0", 0,
        "status 6", -795971668);
    Object[] two = {"line 1 1 1", "line 2 2 2"};
    edge("51 the LINE that just came is struck", two, "seed 3", "days 1", 2, "keyOf 0 0", 111,
        "keyOf 1 0", 222, "keyOf 2 0", BAD);
    edge("51 the first LINE is struck", two, "seed 19", "days 1", 2, "keyOf 0 0", 222, "keyOf 1 0",
        417, "keyOf 2 0", BAD);
    Object[] one = {"59 line 1 1 1"};
    edge("51 room for one: it comes", one, "seed 0", "days 1", 60, "keyOf 59 0", 66, "keyOf 58 0",
        111, "status 6", -698016724);
    edge("51 room for one: the last of sixty is struck", one, "seed 4839", "days 1", 59, "many 0 1",
        59, "keyOf 59 0", BAD, "status 6", 54988800);
    edge("51 room for one: the first is struck", one, "seed 7164", "days 1", 59, "keyOf 58 0", 693,
        "many 0 1", 58);
    edge("51 no room: the first LINE has them", SIXTY_LINES, "seed 59", "days 1", 60, "keyOf 0 0",
        56, "keyOf 1 0", 123, "status 6", 1540766980);
    edge("51 no room: the last LINE has them", SIXTY_LINES, "seed 4", "days 1", 60, "keyOf 59 0",
        749, "keyOf 58 0", 123, "status 6", -1137723415);
    edge("51 no room: the LINE that has them is struck", SIXTY_LINES, "seed 298", "days 1", 59,
        "many 0 1", 59, "status 6", 1620935780);
    edge("51 no room: the last LINE is struck", SIXTY_LINES, "seed 398", "days 1", 59, "keyOf 54 0",
        463, "keyOf 58 0", 123, "keyOf 59 0", BAD);
    edge("51 no room: the first LINE is struck", SIXTY_LINES, "seed 622", "days 1", 59,
        "keyOf 56 0", 258, "keyOf 57 0", 123);
  }

  private void draws51() {
    edge("51 a DRAW of 0: MISSING, all three", "seed 190", "days 1", 1, "status 4", 3);
    edge("51 a DRAW of 9, all three", "seed 15660", "days 1", 1, "keyOf 0 0", 999);
    edge("51 a DRAW of 7 below 8: none is struck", "seed 4", "days 1", 1, "keyOf 0 0", 749);
    edge("51 a DRAW of 1 below 8: none is struck", "seed 8", "days 1", 1, "keyOf 0 0", 422);
    edge("51 upper 16 bits, no sign", "seed 18", "days 1", 1, "keyOf 0 0", 509);
    edge("51 SEED 0", "seed 0", "days 1", 1, "keyOf 0 0", 66, "status 6", -698016724);
    edge("51 SEED -1", "seed -1", "days 1", 1, "keyOf 0 0", 792, "status 6", -396452581);
    edge("51 the greatest SEED", "seed " + MAX, "days 1", 1, "keyOf 0 0", 970, "status 6",
        1751031067);
    edge("51 the least SEED", "seed " + MIN, "days 1", 1, "keyOf 0 0", 888, "status 6", 1449466924);
    edge("51 SEED 1 at first", "days 1", 1, "status 6", -999580867);
  }

  private void seed52() {
    int[] any = {MIN, -201, -106, -102, -1, 0, 1, MAX};
    for (int v : any) {
      edge("52 any SEED", "seed " + v, 1, "status 6", v, "seed 1", v, "status 12", 0);
    }
    edge("52 1 at first", "seed 5", 1);
  }

  private void image53() {
    edge("53 of a new object", "image", 1, "line 1 1 1", "gone 0", "price 5", "seed 5", "back", 1,
        "status 0", 0, "status 1", 0, "status 2", 4, "status 6", 1);
    edge("53 of a full one", SIXTY_LINES, ALL_CONDITIONS, "image", 1, "60 strike 0", "24 drop",
        "back", 1, "status 0", 60, "keyOf 59 0", 123, "status 1", 24, "keys 23 1", 100);
    edge("53 a full one to one that was new", "image", SIXTY_LINES, ALL_CONDITIONS, "back", 1,
        "status 0", 0, "keyOf 0 0", BAD, "status 1", 0, "drop", STUCK);
    edge("53 again: the later one is kept", "image", "line 1 1 1", "image", 1, "strike 0", "back",
        1, "status 0", 1);
    edge("53 not THE TAPE", "tape a", "image", "tape ?", "back", 1, "status 5", 2, "cond", 0);
    edge("53 not THE TAPE, wiped", "tape a?", "image", "wipe", "back", 1, "status 5", 0);
    edge("53 not SHELVES", "row 0 3 1", "image", "set 0 0 7", "row 1 2 2", "back", 1, "element 0 0",
        7, "holds 1", 2);
    edge("53 not a SHELF that was emptied", "row 0 3 1", "image", "show 0 -1", "back", 1, "holds 0",
        NONE);
    edge("53 not REFUSALS", "drop", STUCK, "image", 1, "drop", STUCK, "back", 1, "status 15", 2);
    edge("53 changes nothing", WORLD, "image", 1, "status 0", 3, "status 1", 7, "status 2", 7,
        "status 5", 2, "status 6", 99, "status 7", 7);
  }

  private void back54() {
    edge("54 STUCK: nothing was kept", SIXTY_LINES, "gone 0", "price 9", "back", STUCK);
    edge("54 STUCK, twice", "2 back", STUCK, "status 15", 2);
    edge("54 STUCK no more", "back", STUCK, "image", 1, "back", 1);
    edge("54 as it was kept", WORLD, "back", 1, "status 0", 2, "status 1", 1, "status 2", 4,
        "status 6", 1);
    edge("54 twice", WORLD, "back", 1, "strike 0", "back", 1, "status 0", 2, "keyOf 0 0", 123);
    edge("54 what is changed then isn't kept", WORLD, "back", 1, "alter 0 0 9", "back", 1,
        "keyOf 0 0", 123);
    edge("54 room again", "59 line 1 1 1", "image", "line 2 2 2", "back", "line 3 3 3", 59,
        "line 3 3 3", FULL);
    edge("54 room for CONDITIONS again", "23 gone 0", "image", "gone 1", "back", "gone 2", 23,
        "condOf 23 3", 4, "gone 2", FULL);
    edge("54 the draws go on as they did", "image", "days 5", "back", "days 1", 1, "keyOf 0 0",
        863);
    edge("54 what was dropped is there again", "tape a=1&b?", "cond", 2, "image", "3 drop", "back",
        1, "truth 2 0 100", 1, "truth 2 0 110", 0, "condOf 2 6", 3, "condOf 2 3", 3);
    Object[] others = {"tape a=1&b%31&ba<45", "cond", 4, "image", "5 drop", "gone 0", "turn 9 0",
        "among 2 6", "turn 8 1", "pair 7 0 2", "back"};
    int[][] due = {
      // KIND, x, y, COLUMNS, SIGN, how deep, PARTS
      {0, NONE, NONE, 1, 1, 0, 1}, {4, NONE, NONE, 2, NONE, 0, 2}, {6, 0, 1, 3, NONE, 1, 3},
      {5, NONE, NONE, 3, 0, 0, 8}, {6, 2, 3, 3, NONE, 2, 11}
    };
    for (int cond = 0; cond < due.length; cond++) {
      for (int what = 0; what < due[cond].length; what++) {
        edge("54 CONDITIONS as they were, where others are", others,
            "condOf " + cond + " " + what, due[cond][what]);
      }
    }
    edge("54 what they are for KEYS, where others are", others, "truth 1 0 110", 1,
        "truth 1 0 120", 0, "truth 3 0 930", 1, "truth 3 0 940", 0, "truth 4 0 110", 1);
    // CONDITION 3 is TRUE for all KEYS, or FALSE for all, and the other way in what was kept.
    String[] ways = {"pair 7 0 2", "pair 6 0 2"};
    for (int truth = 0; truth <= 1; truth++) {
      edge("54 what they are for all KEYS, where others are", "tape a?|-a?", "cond", "drop",
          ways[1 - truth], "image", "drop", ways[truth], "keys 3 " + truth, 0, "back", 1,
          "keys 3 " + truth, 1000);
    }
    edge("54 what SHELVES say of them, where others are", others, "show 0 3", "says 0 1", 1,
        "says 0 6", 2);
    edge("54 what SHELVES say of one COLUMN's, where others are", others, "show 0 1", "says 0 2",
        146);
    edge("54 what came then is no more", "image", "gone 0", "back", 1, "condOf 0 0", BAD);
  }

  private void backToShelves54() {
    Object[] scene = {"gone 0", "gone 1", "image", "gone 2"};
    edge("54 a CONDITION that was kept", scene, "show 0 1", "back", 1, "holds 0", 11);
    edge("54 a CONDITION that wasn't: NOTHING", scene, "show 0 2", "back", 1, "holds 0", NONE,
        "set 0 0 1", NOTHING);
    edge("54 the same number, though it was another one", "gone 0", "image", "drop", "test 1 1 5",
        "show 0 0", "back", 1, "holds 0", 10, "says 0 2", 1);
    edge("54 all SHELVES with CONDITIONS", scene, "show 0 0", "show 6 1", "show 7 2", "back", 1,
        "status 7", 2);
    edge("54 NOTHING, if no CONDITIONS were kept", "image", "gone 0", "show 0 0", "back", 1,
        "holds 0", NONE);
    edge("54 a SHELF that a drop has emptied stays so", "gone 0", "show 0 0", "image", "drop",
        "back", 1, "holds 0", NONE);
    edge("54 ROWS stay", scene, "row 0 4 3", "back", 1, "holds 0", 4);
  }

  private void status55() {
    int[] none = {MIN, -1, 8, 9, 10, 11, 17, 18, MAX};
    for (int what : none) {
      edge("55 NONE another what", WORLD, "status " + what, NONE, "status 12", 0);
    }
    int[] due = {3, 7, 7, 3, 1, 2, 99, 7};
    for (int what = 0; what < due.length; what++) {
      edge("55 what " + what, WORLD, "status " + what, due[what]);
    }
    edge("55 sixty LINES", SIXTY_LINES, "status 0", 60);
    edge("55 all CONDITIONS", ALL_CONDITIONS, "status 1", 24);
    edge("55 PRICE 0", "price 0", "status 2", 0);
    edge("55 PRICE 20", "price 20", "status 2", 20);
    edge("55 one KEY of sixty LINES", SIXTY_LINES, "status 3", 1);
    edge("55 different KEYS, the least and the greatest", "line 0 0 0", "line 9 9 9", "line 9 9 9",
        "status 3", 2);
    edge("55 KEYS in INDEX 0: by the last digit, too", "line 1 1 1", "line 1 1 2", "status 3", 2);
    edge("55 places MISSING, all of sixty LINES", "60 line 0 0 0", "status 4", 180);
    edge("55 no places MISSING", SIXTY_LINES, "status 4", 0);
    for (int column = 0; column <= 2; column++) {
      edge("55 one place MISSING", "line 1 1 1", "alter 0 " + column + " 0", "status 4", 1);
    }
    edge("55 a full TAPE", "250 feed 0", "status 5", 250);
    edge("55 all SHELVES hold something", WORLD, "row 2 0 0", "status 7", 8);
    edge("55 a ROW without elements is something", "row 7 0 0", "status 7", 1);
  }

  private void statusOfRefusals55() {
    Object[] each = {
      "price 21", BAD, "gone 0", "show 0 0", "2 set 0 0 1", OTHER, "3 set 1 0 1", NOTHING,
      "4 back", STUCK, "250 feed 1", "5 feed 1", FULL
    };
    for (int i = 0; i < 5; i++) {
      edge("55 REFUSALS " + (-102 - i), each, "status " + (12 + i), i + 1);
    }
    edge("55 a FAULT is a BAD, table", "table", -200, "status 12", 1);
    edge("55 a FAULT is a BAD, cond", "tape a", "cond", -201, "status 12", 1);
    edge("55 REFUSALS are for ever", "back", STUCK, "image", "line 1 1 1", "back", 1, "status 15",
        1);
    edge("55 asking isn't refused", "holds 9", NONE, "element 9 9", 0, "status 99", NONE, "wipe", 0,
        "status 12", 0, "status 13", 0, "status 14", 0);
  }

  private void calls512() {
    edge("512 calls: the last is counted, too", "510 price 21", BAD, "price 21", BAD, "status 12",
        511);
    edge("512 calls: none but the last 512th", "511 status 0", "line 1 2 3", 0);
    edge("512 calls: FULL", "24 gone 0", "487 gone 0", FULL, "status 16", 487);
    edge("512 calls: 60 DAYS each", "511 days 60", "status 0", 60);
    edge("512 calls: image and back", "255 image", "255 back", 1, "line 1 1 1", 0, "status 0", 1);
    edge("512 calls: cond", "511 cond", -200, "status 12", 511);
    edge("512 calls: BEST INDEX", "rest 2 2 1", SIXTY_LINES, "450 bestIndex 0 1", 64, "status 0",
        60);
  }
}
