/** The edges of promises 9 to 16: the lines, and what is read from THE TAPE. */
public final class EdgeTableTest extends Edges {
  private static final String SIXTY = "111" + ";222".repeat(59);

  private EdgeTableTest() {
    super("EdgeTableTest");
  }

  public static void main(String[] args) {
    EdgeTableTest test = new EdgeTableTest();
    test.line9();
    test.alter10();
    test.strike11();
    test.price12();
    test.feed13();
    test.wipe14();
    test.tableRead15();
    test.tableFaults15();
    test.tableRoom15();
    test.condRead16();
    test.condOrder16();
    test.condEndsTooEarly16();
    test.condFaults16();
    test.condDigits16();
    test.condRoom16();
    test.end();
  }

  private void line9() {
    range("9 a", WORLD, "line # 1 1", 0, 9);
    range("9 b", WORLD, "line 1 # 1", 0, 9);
    range("9 c", WORLD, "line 1 1 #", 0, 9);
    edge("9 the first LINE", "line 1 2 3", 0);
    edge("9 all MISSING", "line 0 0 0", 0, "lineOf 0 0", 0, "lineOf 0 1", 0, "lineOf 0 2", 0);
    edge("9 all 9", "line 9 9 9", 0, "lineOf 0 0", 9, "lineOf 0 1", 9, "lineOf 0 2", 9);
    edge("9 the 60th LINE", "59 line 1 2 3", "line 4 5 6", 59, "lineOf 59 2", 6, "lineOf 58 2", 3);
    edge("9 FULL: the 61st LINE", SIXTY_LINES, "line 4 5 6", FULL);
    edge("9 BAD a ahead of FULL", SIXTY_LINES, "line 10 1 1", BAD);
    edge("9 BAD b ahead of FULL", SIXTY_LINES, "line 1 -1 1", BAD);
    edge("9 BAD c ahead of FULL", SIXTY_LINES, "line 1 1 10", BAD);
    edge("9 FULL no more when one is struck", SIXTY_LINES, "strike 30", "line 4 5 6", 59,
        "line 4 5 6", FULL);
  }

  private void alter10() {
    range("10 the LINES there are", WORLD, "alter # 1 6", 0, 2);
    range("10 COLUMNS", WORLD, "alter 1 # 6", 0, 2);
    range("10 VALUES or MISSING", WORLD, "alter 1 1 #", 0, 9);
    edge("10 no LINES", "alter 0 0 1", BAD);
    edge("10 the last of sixty LINES", SIXTY_LINES, "alter 59 2 9", 3, "lineOf 59 2", 9,
        "lineOf 58 2", 3);
    edge("10 behind sixty LINES", SIXTY_LINES, "alter 60 2 9", BAD);
    edge("10 a LINE that is struck", WORLD, "strike 0", "alter 2 0 1", BAD);
    edge("10 MISSING then", WORLD, "alter 0 0 0", 1, "lineOf 0 0", 0);
    edge("10 MISSING ahead", WORLD, "alter 1 2 9", 0, "lineOf 1 2", 9);
    edge("10 what it has already", WORLD, "alter 2 2 9", 9, "lineOf 2 2", 9);
    edge("10 no other place", WORLD, "alter 1 0 9", 4, "keyOf 0 0", 123, "keyOf 1 0", 950,
        "keyOf 2 0", 789);
    edge("10 all three are BAD: counted once", WORLD, "alter 3 3 10", BAD);
  }

  private void strike11() {
    range("11 the LINES there are", WORLD, "strike #", 0, 2);
    edge("11 no LINES", "strike 0", BAD);
    edge("11 the only LINE", "line 1 2 3", "strike 0", 0, "keyOf 0 0", BAD);
    edge("11 the first LINE", WORLD, "strike 0", 2, "keyOf 0 0", 450, "keyOf 1 0", 789,
        "keyOf 2 0", BAD);
    edge("11 one between", WORLD, "strike 1", 2, "keyOf 0 0", 123, "keyOf 1 0", 789,
        "keyOf 2 0", BAD);
    edge("11 the last LINE", WORLD, "strike 2", 2, "keyOf 0 0", 123, "keyOf 1 0", 450,
        "keyOf 2 0", BAD);
    edge("11 the last of sixty", "59 line 1 2 3", "line 4 5 6", "strike 59", 59, "keyOf 58 0", 123,
        "keyOf 59 0", BAD);
    edge("11 the first of sixty", "59 line 1 2 3", "line 4 5 6", "strike 0", 59, "keyOf 58 0", 456,
        "keyOf 57 0", 123, "keyOf 59 0", BAD);
    edge("11 behind sixty", SIXTY_LINES, "strike 60", BAD);
    edge("11 a number that is no more", WORLD, "strike 2", "strike 2", BAD);
    edge("11 all, one by one", SIXTY_LINES, "59 strike 0", 1, "strike 0", 0, "strike 0", BAD);
  }

  private void price12() {
    range("12 PRICE", WORLD, "price #", 0, 20);
    edge("12 what it was at first", "price 20", 4);
    edge("12 what it was", "price 20", "price 0", 20, "price 7", 0, "status 2", 7);
    edge("12 what a refused one left", WORLD, "price 21", BAD, "price 1", 7);
  }

  private void feed13() {
    range("13 one byte", NO_SCENE, "feed #", 0, 255);
    edge("13 the first byte", "feed 0", 1);
    edge("13 the 250th byte", "249 feed 32", "feed 255", 250);
    edge("13 FULL: the 251st byte", "250 feed 32", "feed 32", FULL);
    edge("13 BAD ahead of FULL", "250 feed 32", "feed 256", BAD);
    edge("13 BAD below ahead of FULL", "250 feed 32", "feed -1", BAD);
    edge("13 all 250 bytes are read", "247 feed 32", "tape 123", "table", 1, "keyOf 0 0", 123);
    edge("13 the one refused is not", "248 feed 32", "tape a?", 250, "feed 63", FULL, "cond", 0);
    edge("13 FULL no more when it is wiped", "250 feed 32", "wipe", 250, "feed 97", 1);
    edge("13 FULL no more when it is read", "250 feed 32", "cond", -450, "feed 97", 1);
  }

  private void wipe14() {
    edge("14 an empty TAPE", "wipe", 0, "status 5", 0);
    edge("14 one byte", "tape a", "wipe", 1, "status 5", 0);
    edge("14 a full TAPE", "250 feed 97", "wipe", 250, "status 5", 0);
    edge("14 twice", "tape a?", "wipe", 2, "wipe", 0);
    edge("14 nothing of it stays", "tape a?", "wipe", "cond", -200);
    edge("14 nothing of it stays behind less", "tape a? ", "wipe", "tape a", "cond", -201);
  }

  // ---- tables ----

  private void table(String sentence, String text, int news, int key) {
    edge("15 " + sentence, "tape " + text, "table", news, "status 0", news, "status 5", 0,
        "keyOf " + (news - 1) + " 0", key);
  }

  private void noTable(String sentence, String text, int fault) {
    edge("15 " + sentence, "line 1 1 1", "tape " + text, "table", -200 - fault, "status 5", 0,
        "status 12", 1);
    edge("15 " + sentence + ", nothing of it comes", "line 1 1 1", "tape " + text, "table",
        -200 - fault);
  }

  private void tableRead15() {
    table("one LINE", "123", 1, 123);
    table("two LINES", "123;456", 2, 456);
    table("1 is a VALUE", "111", 1, 111);
    table("9 is a VALUE", "999", 1, 999);
    table("MISSING a", ".23", 1, 23);
    table("MISSING b", "1.3", 1, 103);
    table("MISSING c", "12.", 1, 120);
    table("all MISSING", "...", 1, 0);
    table("blanks ahead", "   123", 1, 123);
    table("blanks within a LINE", "1 2  3", 1, 123);
    table("blanks about the ;", "123  ;  456", 2, 456);
    table("blanks at the end", "123   ", 1, 123);
    edge("15 behind the LINES there are", WORLD, "wipe", "tape 321;654", "table", 2, "keyOf 2 0",
        789, "keyOf 3 0", 321, "keyOf 4 0", 654, "status 0", 5);
    edge("15 one TABLE behind another", "tape 123", "table", 1, "tape 456;789", "table", 2,
        "keyOf 0 0", 123, "keyOf 1 0", 456, "keyOf 2 0", 789);
    edge("15 a TABLE behind a FAULT", "tape 123;4", "table", -205, "tape 567", "table", 1,
        "keyOf 0 0", 567);
    edge("15 a TABLE behind a FULL one", "59 line 1 1 1", "tape 222;333", "table", FULL, "tape 444",
        "table", 1, "keyOf 59 0", 444);
  }

  private void tableFaults15() {
    noTable("only blanks: THE TAPE's size", "   ", 3);
    noTable("no b: THE TAPE's size", "1", 1);
    noTable("no c: THE TAPE's size", "12", 2);
    noTable("no c, a blank at the end: THE TAPE's size", "12 ", 3);
    noTable("nothing behind ;: THE TAPE's size", "123;", 4);
    noTable("blanks behind ;: THE TAPE's size", "123; ", 5);
    noTable("too few behind ;: THE TAPE's size", "123;45", 6);
    noTable("0 is no VALUE", "103", 1);
    noTable("0 is no VALUE, at first", "023", 0);
    noTable("0 is no VALUE, at last", "120", 2);
    noTable("the sign behind 9", "12:", 2);
    noTable("the sign ahead of 1", "/23", 0);
    noTable("the sign ahead of .", "1-3", 1);
    noTable("a fourth sign", "1234", 3);
    noTable("a fourth sign behind blanks", "123 4", 4);
    noTable("a fourth sign MISSING", "123.", 3);
    noTable("; at first", ";123", 0);
    noTable("; too early", "12;", 2);
    noTable("two ;", "123;;456", 4);
    noTable("the sign ahead of ;", "123:456", 3);
    noTable("the sign behind ;", "123<456", 3);
    noTable("a sign that is no blank", "1\t23", 1);
    noTable("the sign ahead of the blank", "1\u001f23", 1);
    noTable("the sign behind the blank", "1!23", 1);
    noTable("the least byte", "12\u0000", 2);
    noTable("the greatest byte", "12\u00ff", 2);
    noTable("the first of two faults", "1x3;0", 1);
    noTable("a fault in the second LINE", "123;4x6", 5);
    edge("15 empty: THE TAPE's size", "table", -200, "status 12", 1);
    edge("15 a full TAPE that ends too early", "250 feed 49", "table", -203);
    edge("15 a full TAPE of blanks", "250 feed 32", "table", -450);
  }

  private void tableRoom15() {
    edge("15 just room for all: sixty", "tape " + SIXTY, "table", 60, "keyOf 59 0", 222);
    edge("15 FULL: sixty-one", "tape " + SIXTY + ";333", "table", FULL, "status 5", 0);
    edge("15 FULL: nothing of it comes", "tape " + SIXTY + ";333", "table", FULL);
    edge("15 just room for all: the last one", "59 line 1 1 1", "tape 222", "table", 1,
        "keyOf 59 0", 222);
    edge("15 FULL: two for the last one", "59 line 1 1 1", "tape 222;333", "table", FULL);
    edge("15 FULL: not even one", SIXTY_LINES, "tape 222", "table", FULL, "status 5", 0);
    edge("15 FULL: not even one, nothing changes", SIXTY_LINES, "tape 222", "table", FULL);
    edge("15 FULL isn't counted as BAD", SIXTY_LINES, "tape 222", "table", FULL, "status 12", 0,
        "status 16", 1);
    edge("15 the FAULT ahead of FULL", SIXTY_LINES, "tape 22", "table", -202, "status 16", 0);
    edge("15 a FAULT behind all that would fit", "tape " + SIXTY + ";333x", "table", -443);
    edge("15 as many as fit onto THE TAPE, FULL", "tape " + SIXTY + ";333;444  ", 249, "table",
        FULL);
  }

  // ---- conditions ----

  private void cond(String sentence, String text, int number, String call, long due) {
    edge("16 " + sentence, "tape " + text, "cond", number, "status 1", number + 1, "status 5", 0,
        call, due);
  }

  private void noCond(String sentence, String text, int fault) {
    edge("16 " + sentence, "gone 2", "tape " + text, "cond", -200 - fault, "status 5", 0,
        "status 12", 1);
    edge("16 " + sentence + ", nothing of it comes", "gone 2", "tape " + text, "cond",
        -200 - fault);
  }

  private void condRead16() {
    cond("a TEST", "a<1", 0, "condOf 0 0", 0);
    cond("a TEST by =", "c=9", 0, "condOf 0 4", 1);
    cond("a TEST by >", "b>9", 0, "condOf 0 4", 2);
    cond("a TEST by ~", "b~1", 0, "condOf 0 4", 3);
    cond("an AMONG of one", "a[9]", 0, "values 0 0", 512);
    cond("an AMONG of all", "c[123456789]", 0, "values 0 2", 1022);
    cond("an AMONG in any order", "c[917]", 0, "values 0 2", 642);
    cond("an AMONG of the same again", "c[1111]", 0, "values 0 2", 2);
    cond("a GONE", "b?", 0, "condOf 0 3", 2);
    cond("a COLUMNS", "c>a", 0, "condOf 0 0", 3);
    cond("a REST, m 2 and r 0", "a%20", 0, "values 0 0", 340);
    cond("a REST, m 2 and r 1", "a%21", 0, "values 0 0", 682);
    cond("a REST, m 9 and r 8", "a%98", 0, "values 0 0", 256);
    cond("a REST, m 9 and r 0", "a%90", 0, "values 0 0", 512);
    cond("a SEVERAL of two", "ca=91", 0, "truth 0 0 109", 1);
    cond("a SEVERAL of three", "bca=912", 0, "truth 0 0 291", 1);
    String[] noSigns = {"a?", "a[1]", "a%20", "-a?", "+a?", "a?&b?", "a?|b?"};
    int[] numbers = {0, 0, 0, 1, 1, 2, 2};
    for (int i = 0; i < noSigns.length; i++) {
      cond("no SIGN: " + noSigns[i], noSigns[i], numbers[i], "condOf " + numbers[i] + " 4", NONE);
    }
    String[] noTwos = {"a<1", "a?", "a[1]", "a%20", "a<b", "ab<12", "-a?", "+a?"};
    for (String text : noTwos) {
      int number = text.length() == 3 && text.endsWith("a?") ? 1 : 0;
      cond("no y: " + text, text, number, "condOf " + number + " 2", NONE);
    }
    cond("blanks within a TEST", " a < 2 ", 0, "values 0 0", 2);
    cond("blanks within an AMONG", " a [ 2 3 ] ", 0, "values 0 0", 12);
    cond("blanks within a GONE", " a ? ", 0, "condOf 0 0", 2);
    cond("blanks within a COLUMNS", " a > b ", 0, "condOf 0 0", 3);
    cond("blanks within a REST", " a % 9 8 ", 0, "values 0 0", 256);
    cond("blanks within a SEVERAL", " a c b = 1 2 3 ", 0, "truth 0 0 132", 1);
    cond("blanks about -", " - a? ", 1, "condOf 1 0", 8);
    cond("blanks about +", " + a? ", 1, "condOf 1 0", 9);
    cond("blanks about ( and )", " ( a? ) ", 0, "condOf 0 0", 2);
    cond("blanks about &", "a? & b?", 2, "condOf 2 0", 6);
    cond("blanks about |", "a? | b?", 2, "condOf 2 0", 7);
    edge("16 behind those there are", WORLD, "cond", 7, "condOf 7 3", 2, "status 1", 8);
    edge("16 behind those there are, over one another", WORLD, "wipe", "tape -a?", "cond", 8,
        "condOf 8 1", 7);
    edge("16 a new one, even if there is one like it", "tape a?", "cond", 0, "tape a?", "cond", 1,
        "same 1", 0);
  }

  private void condOrder16() {
    cond("| from the left", "a?|b?|c?", 4, "condOf 4 1", 2);
    cond("| from the left: that of the first two", "a?|b?|c?", 4, "condOf 2 2", 1);
    cond("& from the left", "a?&b?&c?", 4, "condOf 4 1", 2);
    cond("& from the left: that of the first two", "a?&b?&c?", 4, "condOf 2 2", 1);
    cond("& ahead of |, on its right", "a?|b?&c?", 4, "condOf 4 0", 7);
    cond("& ahead of |, on its left", "a?&b?|c?", 4, "condOf 4 0", 7);
    cond("the AND is whole ahead of what follows |", "a?&b?|c?", 4, "condOf 2 0", 6);
    cond("- is of one TURN", "-a?&b?", 3, "condOf 3 0", 6);
    cond("+ is of one TURN", "+a?|b?", 3, "condOf 3 0", 7);
    cond("- of +", "-+a?", 2, "condOf 2 0", 8);
    cond("+ of -", "+-a?", 2, "condOf 2 0", 9);
    cond("( ) about an OR", "(a?|b?)&c?", 4, "condOf 4 0", 6);
    cond("( ) on the right", "a?&(b?|c?)", 4, "condOf 4 2", 3);
    cond("( ) on the right of |", "a?|(b?|c?)", 4, "condOf 4 1", 0);
    cond("- of ( )", "-(a?&b?)", 3, "condOf 3 1", 2);
    cond("- behind &", "a?&-b?", 3, "condOf 2 0", 8);
    cond("( ) of ( )", "((a?))", 0, "condOf 0 0", 2);
    cond("what it is over ahead of it, the right one alike", "a?|-b?", 3, "condOf 3 2", 2);
  }

  private void condEndsTooEarly16() {
    String[] texts = {
      " ", "a", "a ", "a<", "a< ", "ab", "abc", "ab<", "ab<1", "abc<12", "a[", "a[1", "a[1 ", "a%",
      "a%9", "a% 9 ", "-", "+", "--", "(", "((", "(a?", "(a? ", "((a?)", "a?&", "a?|", "a?& ",
      "a?|b?&", "(a?&", "-(", "(a?|b?"
    };
    for (String text : texts) {
      noCond("ends too early: THE TAPE's size", text, text.length());
    }
    edge("16 empty: THE TAPE's size", "gone 2", "cond", -200, "status 12", 1);
    edge("16 a full TAPE ends too early", "250 feed 40", "cond", -450);
    edge("16 a full TAPE of - ends too early", "250 feed 45", "cond", -450);
    edge("16 a full TAPE of blanks ends too early", "250 feed 32", "cond", -450);
  }

  private void condFaults16() {
    noCond("no such COLUMN", "d?", 0);
    noCond("the sign ahead of a", "`?", 0);
    noCond("a great letter", "A?", 0);
    noCond("a digit at first", "1<a", 0);
    noCond("a SIGN at first", "<1", 0);
    noCond("& at first", "&a?", 0);
    noCond("| at first", "|a?", 0);
    noCond(") at first", ")", 0);
    noCond("an empty ( )", "()", 1);
    noCond(") too many", "a?)", 2);
    noCond(") too many behind ( )", "(a?))", 4);
    noCond(") too many behind |", "a?|b?)", 5);
    noCond("( behind a TURN", "a?(b?)", 2);
    noCond("- behind a TURN", "a?-b?", 2);
    noCond("+ behind a TURN", "a?+b?", 2);
    noCond("a TURN behind a TURN", "a?b?", 2);
    noCond("a TURN behind )", "(a?)b?", 4);
    noCond("two &", "a?&&b?", 3);
    noCond("two |", "a?||b?", 3);
    noCond("& behind |", "a?|&b?", 3);
    noCond(") behind &", "(a?&)", 4);
    noCond("& behind -", "-&a?", 1);
    noCond(") behind -", "(-)", 2);
    noCond("] behind a COLUMN", "a]", 1);
    noCond("% too many", "a%%21", 2);
    noCond("two SIGNS", "a<<1", 2);
    noCond("two SIGNS that are no one SIGN", "a<=1", 2);
    noCond("no SIGN", "a!1", 1);
    noCond("a digit behind a COLUMN", "a1", 1);
    noCond("& behind a COLUMN", "a&b?", 1);
    noCond("( behind a SIGN", "a<(1)", 2);
    noCond("- behind a SIGN", "a<-1", 2);
    noCond("? behind ?", "a??", 2);
    noCond("? behind two COLUMNS", "ab?", 2);
    noCond("[ behind two COLUMNS", "ab[1]", 2);
    noCond("% behind two COLUMNS", "ab%21", 2);
    noCond("the same COLUMN, COLUMNS", "b>b", 2);
    noCond("the same COLUMN behind a blank, COLUMNS", "b> b", 3);
    noCond("the same COLUMN, SEVERAL", "aa<11", 1);
    noCond("the first again, SEVERAL", "aba<111", 2);
    noCond("the second again, SEVERAL", "abb<111", 2);
    noCond("a fourth COLUMN, SEVERAL", "abca<1111", 3);
    noCond("a COLUMN behind the SIGN, SEVERAL", "ab<c", 3);
    noCond("two COLUMNS behind a SIGN", "a<bc", 3);
    noCond("a TURN behind a TURN, within ( )", "(a?b?)", 3);
    noCond("a digit behind a TURN, within ( )", "(a?1)", 3);
    noCond("( behind a TURN, within ( )", "(a?(b?))", 3);
    noCond("- behind a TURN, within ( )", "(a?-b?)", 3);
    noCond("] for )", "(a?]", 3);
    noCond("; within ( )", "(a?;b?)", 3);
    noCond("the least byte", "a?\u0000", 2);
    noCond("the greatest byte", "a\u00ff", 1);
    noCond("the sign ahead of the blank", "a?\u001f", 2);
    noCond("the first of two faults", "a<0&b<0", 2);
    noCond("behind two that are whole", "a?|b?|d?", 6);
  }

  private void condDigits16() {
    noCond("0 of a TEST", "a<0", 2);
    noCond("the sign behind 9 of a TEST", "a<:", 2);
    noCond("two digits of a TEST", "a<12", 3);
    noCond("an empty AMONG", "a[]", 2);
    noCond("0 in an AMONG", "a[0]", 2);
    noCond("the sign behind 9 in an AMONG, at first", "a[:]", 2);
    noCond("the sign ahead of 1 in an AMONG, at last", "a[1/]", 3);
    noCond("0 in an AMONG, at last", "a[10]", 3);
    noCond("the sign behind 9 in an AMONG", "a[9:]", 3);
    noCond("a comma in an AMONG", "a[1,2]", 3);
    noCond("a digit behind an AMONG", "a[1]2", 4);
    noCond("two ]", "a[1]]", 4);
    noCond("m 0", "a%00", 2);
    noCond("m 1", "a%10", 2);
    noCond("m: the sign behind 9", "a%:0", 2);
    noCond("r: the sign ahead of 0", "a%2/", 3);
    for (int m = 2; m <= 9; m++) {
      cond("the least r", "a%" + m + "0", 0, "truth 0 0 100", 0);
      cond("the greatest r", "a%" + m + (m - 1), 0, "condOf 0 0", 4);
      noCond("r is m", "a%" + m + m, 3);
    }
    noCond("r: the sign behind 9", "a%9:", 3);
    noCond("a third digit of a REST", "a%211", 4);
    noCond("0 of a SEVERAL, at first", "ab<01", 3);
    noCond("0 of a SEVERAL, at last", "ab<10", 4);
    noCond("the sign behind 9 of a SEVERAL", "abc<12:", 6);
    noCond("three digits for two COLUMNS", "ab<123", 5);
    noCond("four digits for three COLUMNS", "abc<1234", 7);
  }

  private void condRoom16() {
    cond("just room for all: 24", "-".repeat(23) + "a?", 23, "condOf 23 5", 23);
    edge("16 FULL: 25", "tape " + "-".repeat(24) + "a?", "cond", FULL, "status 5", 0);
    edge("16 FULL: nothing of it comes", "tape " + "-".repeat(24) + "a?", "cond", FULL);
    edge("16 just room for the last one", "23 gone 0", "tape b?", "cond", 23, "condOf 23 3", 2);
    edge("16 FULL: two for the last one", "23 gone 0", "tape -b?", "cond", FULL);
    edge("16 FULL: not even one", ALL_CONDITIONS, "tape b?", "cond", FULL, "status 5", 0);
    edge("16 FULL: not even one, nothing changes", ALL_CONDITIONS, "tape b?", "cond", FULL);
    edge("16 FULL isn't counted as BAD", ALL_CONDITIONS, "tape b?", "cond", FULL, "status 12", 0,
        "status 16", 1);
    edge("16 the FAULT ahead of FULL", ALL_CONDITIONS, "tape b", "cond", -201, "status 16", 0);
    edge("16 a FAULT behind all that would fit", "tape a?" + "&b?".repeat(30) + "&", "cond", -293);
    edge("16 a FAULT behind 248 -", "tape " + "-".repeat(248) + "a", "cond", -449);
    edge("16 FULL: a full TAPE of -", "tape " + "-".repeat(248) + "a?", "cond", FULL);
    edge("16 a full TAPE of ( )", "tape " + "(".repeat(124) + "a?" + ")".repeat(124), "cond", 0);
    edge("16 FULL: an OR left open in each (", "tape " + "(a?|".repeat(49) + "a?" + ")".repeat(49),
        "cond", FULL);
    edge("16 room again when one is dropped", ALL_CONDITIONS, "drop", "tape b?", "cond", 23);
    edge("16 room again behind one that didn't fit", "tape " + "-".repeat(24) + "a?", "cond", FULL,
        "tape b?", "cond", 0, "condOf 0 3", 2);
    edge("16 room again behind a FAULT", "tape a?|b?|", "cond", -206, "tape c?", "cond", 0,
        "condOf 0 3", 4);
  }
}
