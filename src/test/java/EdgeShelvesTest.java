/** The edges of promises 1 to 8: a new object, and the shelves. */
public final class EdgeShelvesTest extends Edges {
  private static final String[] KINDS = {
    "test 0 1 4", "among 0 6", "gone 1", "columns 2 0 1", "rest 2 3 0", "tell 7 0 2 9 1 9",
    "several 7 2 0", "pair 6 0 1", "pair 7 0 1", "turn 8 2", "turn 9 3"
  };

  private EdgeShelvesTest() {
    super("EdgeShelvesTest");
  }

  public static void main(String[] args) {
    EdgeShelvesTest test = new EdgeShelvesTest();
    test.newObject1();
    test.row2();
    test.rowIsNew2();
    test.set3();
    test.setKeepsLowestBits3();
    test.copyRefused4();
    test.copyPlaces4();
    test.copyAsTheyWere4();
    test.element5();
    test.holds6();
    test.show7();
    test.says8();
    test.saysOfEachKind8();
    test.end();
  }

  private void newObject1() {
    edge("1 no LINES", "status 0", 0);
    edge("1 no LINE 0", "keyOf 0 0", BAD);
    edge("1 no CONDITIONS", "status 1", 0);
    edge("1 no CONDITION 0", "condOf 0 0", BAD);
    edge("1 no CONDITION is the last", "drop", STUCK);
    edge("1 no SHELF holds something", "status 7", 0);
    for (int s = 0; s < 8; s++) {
      edge("1 SHELF holds NOTHING", "holds " + s, NONE);
      edge("1 SHELF holds NOTHING, no ROW", "set " + s + " 0 1", NOTHING);
    }
    edge("1 THE TAPE has no byte", "status 5", 0);
    edge("1 THE TAPE is empty", "wipe", 0);
    edge("1 an empty TAPE is no TABLE", "table", -200);
    edge("1 an empty TAPE is no CONDITION", "cond", -200);
    edge("1 PRICE 4 at first", "status 2", 4);
    edge("1 SEED 1 at first", "status 6", 1);
    edge("1 no KEYS", "status 3", 0);
    edge("1 no places MISSING", "status 4", 0);
    edge("1 no REFUSALS", "status 12", 0, "status 13", 0, "status 14", 0, "status 15", 0,
        "status 16", 0);
    edge("1 nothing was kept", "back", STUCK);
    edge("NONE is -1", "show 0 -1", 1);
  }

  private void row2() {
    range("2 SHELVES 0 to 7", NO_SCENE, "row # 0 1", 0, 7);
    range("2 SORTS 0 to 4", NO_SCENE, "row 2 # 1", 0, 4);
    range("2 elements 0 to 40", NO_SCENE, "row 2 0 #", 0, 40);
    edge("2 no elements: a ROW", "row 2 3 0", 1, "holds 2", 3, "set 2 0 1", BAD);
    edge("2 one element", "row 2 3 1", "set 2 0 1", 1, "set 2 1 1", BAD);
    edge("2 forty elements", "row 2 3 40", "set 2 39 1", 1, "set 2 40 1", BAD);
    edge("2 the first SHELF", "row 0 0 1", "holds 0", 0, "holds 1", NONE);
    edge("2 the last SHELF", "row 7 4 1", "holds 7", 4, "holds 6", NONE);
    edge("2 BAD SHELF: no other one gets it", WORLD, "row 8 4 1", BAD);
    edge("2 BAD sort: the ROW stays", WORLD, "row 0 5 3", BAD);
    edge("2 BAD size: the ROW stays", WORLD, "row 0 0 41", BAD);
    edge("2 BAD less than no elements: the ROW stays", WORLD, "row 3 0 -1", BAD);
    edge("2 BAD sort: the CONDITION stays", WORLD, "row 1 -1 3", BAD);
    edge("2 all are BAD: counted once", WORLD, "row 8 5 41", BAD);
  }

  private void rowIsNew2() {
    for (int sort = 0; sort <= 4; sort++) {
      edge("2 elements are 0 at first", "row 0 " + sort + " 2", "element 0 0", 0,
          "element 0 1", 0);
      edge("2 a new ROW for a ROW: 0 again", "tell 0 " + sort + " 1 1", "row 0 " + sort + " 2", 1,
          "element 0 0", 0, "element 0 1", 0);
    }
    edge("2 a ROW of another sort for a ROW", "tell 0 3 9", "row 0 4 1", 1, "element 0 0", 0);
    edge("2 a longer ROW than the one ahead: 0 at its end", "row 0 2 40", "set 0 39 8", "row 0 2 1",
        "row 0 2 40", "element 0 39", 0);
    edge("2 a ROW for a CONDITION", WORLD, "row 1 3 2", 1, "holds 1", 3);
  }

  private void set3() {
    refused("3 BAD SHELF", WORLD, "set # 0 1", BAD, -1, 8, MIN, MAX);
    edge("3 OTHER: a CONDITION", WORLD, "set 1 0 1", OTHER);
    edge("3 NOTHING", WORLD, "set 2 0 1", NOTHING);
    refused("3 BAD i", WORLD, "set 0 # 1", BAD, -1, 3, MIN, MAX);
    refused("3 BAD i of no elements", WORLD, "set 6 # 1", BAD, -1, 0);
    refused("3 BAD i of forty elements", WORLD, "set 5 # 1", BAD, -1, 40);
    edge("3 the first element", WORLD, "set 0 0 9", 1, "element 0 0", 9, "element 0 1", -6);
    edge("3 the last element", WORLD, "set 0 2 9", 1, "element 0 2", 9, "element 0 1", -6);
    edge("3 the last of forty", WORLD, "set 5 39 1", 1, "element 5 39", 1, "element 6 0", 0,
        "element 5 38", 0);
    edge("3 the last of the last SHELF", "row 7 3 40", "set 7 39 5", 1, "element 7 39", 5);
    edge("3 BAD SHELF and BAD i", WORLD, "set 8 -1 1", BAD);
    edge("3 OTHER ahead of BAD i", WORLD, "set 1 -1 1", OTHER);
    edge("3 OTHER ahead of BAD i", WORLD, "set 1 40 1", OTHER);
    edge("3 NOTHING ahead of BAD i", WORLD, "set 2 -1 1", NOTHING);
    edge("3 NOTHING ahead of BAD i", WORLD, "set 2 40 1", NOTHING);
  }

  private void kept(int sort, long v, long due) {
    edge("3 sort " + sort + " keeps the lowest bits", "row 0 " + sort + " 3", "set 0 1 " + v, 1,
        "element 0 1", due, "element 0 0", 0, "element 0 2", 0);
  }

  private void setKeepsLowestBits3() {
    kept(0, 127, 127);
    kept(0, 128, -128);
    kept(0, -128, -128);
    kept(0, -129, 127);
    kept(0, 255, -1);
    kept(0, 256, 0);
    kept(0, Long.MAX_VALUE, -1);
    kept(0, Long.MIN_VALUE, 0);
    kept(1, 32767, 32767);
    kept(1, 32768, -32768);
    kept(1, -32768, -32768);
    kept(1, -32769, 32767);
    kept(1, 65535, -1);
    kept(1, 65536, 0);
    kept(1, Long.MIN_VALUE, 0);
    kept(2, MAX, MAX);
    kept(2, 1L + MAX, MIN);
    kept(2, MIN, MIN);
    kept(2, MIN - 1L, MAX);
    kept(2, (1L << 32) - 1, -1);
    kept(2, 1L << 32, 0);
    kept(2, Long.MIN_VALUE, 0);
    kept(3, Long.MAX_VALUE, Long.MAX_VALUE);
    kept(3, Long.MIN_VALUE, Long.MIN_VALUE);
    kept(3, 1L << 32, 1L << 32);
    kept(3, -1, -1);
    kept(4, 0, 0);
    kept(4, 1, 1);
    kept(4, -1, 1);
    kept(4, 2, 1);
    kept(4, 256, 1);
    kept(4, 1L << 32, 1);
    kept(4, Long.MIN_VALUE, 1);
    edge("3 a boolean is not so again", "tell 0 4 5", "set 0 0 0", 1, "element 0 0", 0);
  }

  private void copyRefused4() {
    refused("4 BAD SHELF p", WORLD, "copy # 0 0 0 1", BAD, -1, 8, MIN, MAX);
    refused("4 BAD SHELF q", WORLD, "copy 0 # 0 0 1", BAD, -1, 8, MIN, MAX);
    edge("4 OTHER: a CONDITION in p", WORLD, "copy 1 0 0 0 1", OTHER);
    edge("4 OTHER: a CONDITION in q", WORLD, "copy 0 1 0 0 1", OTHER);
    edge("4 OTHER: CONDITIONS in both", WORLD, "copy 1 7 0 0 1", OTHER);
    edge("4 OTHER: two SORTS", WORLD, "copy 0 3 0 0 1", OTHER);
    edge("4 OTHER: two SORTS, the other way", WORLD, "copy 4 3 0 0 1", OTHER);
    edge("4 NOTHING in p", WORLD, "copy 2 0 0 0 1", NOTHING);
    edge("4 NOTHING in q", WORLD, "copy 0 2 0 0 1", NOTHING);
    edge("4 NOTHING in both", WORLD, "copy 2 2 0 0 1", NOTHING);
    edge("4 BAD p ahead of a CONDITION in q", WORLD, "copy 8 1 0 0 1", BAD);
    edge("4 BAD q ahead of a CONDITION in p", WORLD, "copy 1 8 0 0 1", BAD);
    edge("4 BAD q ahead of NOTHING in p", WORLD, "copy 2 -1 0 0 1", BAD);
    edge("4 BAD p ahead of NOTHING in q", WORLD, "copy -1 2 0 0 1", BAD);
    edge("4 OTHER in q ahead of NOTHING in p", WORLD, "copy 2 1 0 0 1", OTHER);
    edge("4 OTHER in p ahead of NOTHING in q", WORLD, "copy 1 2 0 0 1", OTHER);
    edge("4 OTHER ahead of BAD n", WORLD, "copy 1 0 0 0 -1", OTHER);
    edge("4 two SORTS ahead of BAD n", WORLD, "copy 0 3 0 0 41", OTHER);
    edge("4 two SORTS ahead of BAD i", WORLD, "copy 0 3 -1 0 1", OTHER);
    edge("4 NOTHING ahead of BAD j", WORLD, "copy 0 2 0 -1 1", NOTHING);
    edge("4 NOTHING ahead of BAD i", WORLD, "copy 2 0 -1 0 1", NOTHING);
  }

  private void copyPlaces4() {
    Object[] rows = {"tell 0 2 11 12 13 14", "tell 1 2 21 22 23"};
    refused("4 BAD i", rows, "copy 0 1 # 0 1", BAD, -1, 4, 5, MIN, MAX);
    refused("4 BAD j", rows, "copy 0 1 0 # 1", BAD, -1, 3, 4, MIN, MAX);
    refused("4 BAD n", rows, "copy 0 1 0 0 #", BAD, -1, 4, 5, MIN, MAX);
    refused("4 BAD n: p has less", rows, "copy 1 0 0 0 #", BAD, 4, 5);
    refused("4 BAD i: fewer than n behind it", rows, "copy 0 1 # 0 2", BAD, -1, 3, 4, MAX);
    refused("4 BAD j: fewer than n behind it", rows, "copy 0 1 0 # 2", BAD, -1, 2, 3, MAX);
    refused("4 BAD n behind a place", rows, "copy 0 1 1 1 #", BAD, -1, 3, MAX, MIN);
    edge("4 i and n beyond an int together", rows, "copy 0 1 2147483647 0 2147483647", BAD);
    edge("4 j and n beyond an int together", rows, "copy 0 1 0 2147483647 2147483647", BAD);
    edge("4 less than no place with less than no n", rows, "copy 0 1 -1 -1 -1", BAD);
    edge("4 the last of p to the last of q", rows, "copy 0 1 3 2 1", 1, "element 1 2", 14,
        "element 1 1", 22, "element 0 3", 14);
    edge("4 the first of p to the first of q", rows, "copy 0 1 0 0 1", 1, "element 1 0", 11,
        "element 1 1", 22);
    edge("4 all of q", rows, "copy 0 1 1 0 3", 3, "element 1 0", 12, "element 1 1", 13,
        "element 1 2", 14);
    edge("4 all of p", rows, "copy 1 0 0 1 3", 3, "element 0 0", 11, "element 0 1", 21,
        "element 0 3", 23);
    edge("4 none", rows, "copy 0 1 0 0 0", 0, "element 1 0", 21, "status 12", 0);
    edge("4 none behind the last ones", rows, "copy 0 1 4 3 0", 0, "status 12", 0);
    edge("4 none from beyond p", rows, "copy 0 1 5 0 0", BAD);
    edge("4 none to beyond q", rows, "copy 0 1 0 4 0", BAD);
    edge("4 none from less than no place", rows, "copy 0 1 -1 0 0", BAD);
    edge("4 none to less than no place", rows, "copy 0 1 0 -1 0", BAD);
    edge("4 none of ROWS without elements", "row 0 2 0", "row 1 2 0", "copy 0 1 0 0 0", 0);
    edge("4 one of ROWS without elements", "row 0 2 0", "row 1 2 0", "copy 0 1 0 0 1", BAD);
    edge("4 forty", "row 0 3 40", "set 0 0 5", "set 0 39 6", "row 7 3 40", "copy 0 7 0 0 40", 40,
        "element 7 0", 5, "element 7 39", 6);
    edge("4 forty-one", "row 0 3 40", "row 7 3 40", "copy 0 7 0 0 41", BAD);
    for (int sort = 0; sort <= 4; sort++) {
      edge("4 sort to the same sort", "tell 0 " + sort + " 1 0", "row 1 " + sort + " 2",
          "copy 0 1 0 1 1", 1, "element 1 1", 1, "element 1 0", 0);
    }
  }

  private void copyAsTheyWere4() {
    edge("4 as they were, to places behind", "tell 0 2 1 2 3 4", "copy 0 0 0 1 3", 3,
        "element 0 0", 1, "element 0 1", 1, "element 0 2", 2, "element 0 3", 3);
    edge("4 as they were, to places ahead", "tell 0 2 1 2 3 4", "copy 0 0 1 0 3", 3,
        "element 0 0", 2, "element 0 1", 3, "element 0 2", 4, "element 0 3", 4);
    edge("4 all onto themselves", "tell 0 2 1 2", "copy 0 0 0 0 2", 2, "element 0 0", 1,
        "element 0 1", 2);
  }

  private void element5() {
    edge("5 the first", WORLD, "element 0 0", 5);
    edge("5 the last", WORLD, "element 0 2", 7);
    int[] none = {-1, 3, 40, MIN, MAX};
    for (int i : none) {
      edge("5 no such element", WORLD, "element 0 " + i, 0, "status 12", 0);
    }
    edge("5 behind the end of a shorter ROW", "tell 0 2 4 5", "row 0 2 1", "element 0 1", 0);
    edge("5 the element of no other SHELF", "tell 1 2 9", "row 0 2 40", "element 0 40", 0);
    int[] noShelf = {-1, 8, MIN, MAX};
    for (int s : noShelf) {
      edge("5 no SHELF", WORLD, "element " + s + " 0", 0, "status 12", 0);
    }
    edge("5 a CONDITION", WORLD, "element 1 0", 0, "status 13", 0);
    edge("5 a CONDITION where a ROW was", "gone 0", "tell 0 2 4", "show 0 0", "element 0 0", 0);
    edge("5 NOTHING", WORLD, "element 2 0", 0, "status 14", 0);
    edge("5 NOTHING where a ROW was", "tell 0 2 4", "show 0 -1", "element 0 0", 0);
    edge("5 a ROW without elements", WORLD, "element 6 0", 0);
  }

  private void holds6() {
    int[] noShelf = {-1, 8, MIN, MAX};
    for (int s : noShelf) {
      edge("6 no SHELF", WORLD, "holds " + s, NONE, "status 12", 0);
    }
    edge("6 NOTHING", WORLD, "holds 2", NONE, "status 14", 0);
    for (int sort = 0; sort <= 4; sort++) {
      edge("6 a ROW by its SORT", "row 7 " + sort + " 0", "holds 7", sort);
    }
    edge("6 the first CONDITION", ALL_CONDITIONS, "show 0 0", "holds 0", 10);
    edge("6 the last CONDITION", ALL_CONDITIONS, "show 0 23", "holds 0", 33);
  }

  private void show7() {
    range("7 SHELVES 0 to 7", "gone 0", "show # 0", 0, 7);
    range("7 SHELVES 0 to 7, NOTHING", "gone 0", "show # -1", 0, 7);
    range("7 the CONDITIONS there are, and NONE", WORLD, "show 2 #", -1, 6);
    range("7 no CONDITIONS but NONE", NO_SCENE, "show 2 #", -1, -1);
    range("7 all CONDITIONS, and NONE", ALL_CONDITIONS, "show 2 #", -1, 23);
    edge("7 NOTHING for a ROW", WORLD, "show 0 -1", 1, "holds 0", NONE, "status 7", 6);
    edge("7 NOTHING for a CONDITION", WORLD, "show 1 -1", 1, "holds 1", NONE, "status 7", 6);
    edge("7 NOTHING for NOTHING", WORLD, "show 2 -1", 1, "holds 2", NONE, "status 7", 7);
    edge("7 a CONDITION for a ROW", WORLD, "show 0 6", 1, "holds 0", 16, "set 0 0 1", OTHER);
    edge("7 a CONDITION for another", WORLD, "show 1 0", 1, "holds 1", 10);
    edge("7 BAD cond: the ROW stays", WORLD, "show 0 7", BAD);
    edge("7 BAD cond: the CONDITION stays", WORLD, "show 1 -2", BAD);
    edge("7 both BAD", WORLD, "show 8 7", BAD);
  }

  private void says8() {
    refused("8 BAD SHELF", WORLD, "says # 0", BAD, -1, 8, MIN, MAX);
    refused("8 BAD as", WORLD, "says 1 #", BAD, -1, 7, MIN, MAX);
    refused("8 BAD as ahead of OTHER", WORLD, "says 0 #", BAD, -1, 7);
    refused("8 BAD as ahead of NOTHING", WORLD, "says 2 #", BAD, -1, 7);
    for (int as = 0; as <= 6; as++) {
      edge("8 OTHER: a ROW", WORLD, "says 0 " + as, OTHER);
      edge("8 NOTHING", WORLD, "says 2 " + as, NOTHING);
    }
    edge("8 any: TRUE for no KEY", "test 0 0 1", "show 0 0", "says 0 0", 0);
    edge("8 any: TRUE for all KEYS", "tape a?|-a?", "cond", 3, "show 0 3", "says 0 0", 1000);
    edge("8 ONE COLUMN's: no VALUE", "test 0 0 1", "show 0 0", "says 0 2", 0);
    edge("8 ONE COLUMN's: MISSING alone", "gone 0", "show 0 0", "says 0 2", 1);
    edge("8 ONE COLUMN's: 9 alone", "test 2 2 8", "show 0 0", "says 0 2", 512);
    edge("8 ONE COLUMN's: all but MISSING", "among 1 1022", "show 0 0", "says 0 2", 1022);
    edge("8 a PAIR of 0 and 0", "gone 0", "pair 7 0 0", "show 0 1", "says 0 3", 0);
    edge("8 a PAIR of 22 and 22", "23 gone 0", "pair 6 22 22", 23, "show 0 23", "says 0 3", 2222);
    edge("8 a TURN of 22", "23 gone 0", "turn 9 22", 23, "show 0 23", "says 0 4", 22);
    edge("8 an AND of one PART", "gone 0", "pair 6 0 0", "show 0 1", "says 0 5", 1);
    edge("8 an AND of all PARTS there can be", "tape a?&a?&a?&a?&a?&a?&a?&a?&a?&a?&a?&a?", "cond",
        22, "show 0 22", "says 0 5", 12);
    edge("8 a SEVERAL of two COLUMNS", "tape ab=12", "cond", 0, "show 0 0", "says 0 6", 2);
    edge("8 a SEVERAL of three COLUMNS", "tape cab=123", "cond", 0, "show 0 0", "says 0 6", 3,
        "says 0 1", 2);
  }

  private void saysOfEachKind8() {
    int[][] due = {
      // any, LEAF, ONE COLUMN's, PAIR, TURN, AND, SEVERAL, by KIND
      {100, 0, 16, OTHER, OTHER, OTHER, OTHER},
      {200, 0, 6, OTHER, OTHER, OTHER, OTHER},
      {100, 1, 1, OTHER, OTHER, OTHER, OTHER},
      {360, 2, OTHER, OTHER, OTHER, OTHER, OTHER},
      {300, 2, 584, OTHER, OTHER, OTHER, OTHER},
      {880, 2, OTHER, OTHER, OTHER, OTHER, 2},
      {0, OTHER, OTHER, 1, OTHER, 2, OTHER},
      {300, OTHER, OTHER, 1, OTHER, OTHER, OTHER},
      {900, OTHER, OTHER, OTHER, 2, OTHER, OTHER},
      {360, OTHER, OTHER, OTHER, 3, OTHER, OTHER}
    };
    for (int kind = 0; kind < due.length; kind++) {
      for (int as = 0; as <= 6; as++) {
        edge("8 KIND " + kind + " taken for " + as, KINDS, "show 5 " + kind,
            "says 5 " + as, due[kind][as]);
      }
    }
  }
}
