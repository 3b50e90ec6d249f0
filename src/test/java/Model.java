import java.util.ArrayList;
import java.util.Collections;
import java.util.Comparator;
import java.util.HashSet;
import java.util.List;
import java.util.Set;
import java.util.TreeMap;

/**
 * What the document says, written word by word and without regard to room or speed: the random runs
 * are held against it. It shares no code and no way of keeping things with the program.
 */
final class Model {
  static final int NONE = -1;
  private static final String[] INDEX = {"abc", "acb", "bac", "bca", "cab", "cba"};
  private static final String SIGNS = "<=>~";
  private static final String[] TRUTH = {"FALSE", "TRUE", "DOUBT"};

  /** A refusal, told by its number. */
  private static final class Refusal extends RuntimeException {
    private static final long serialVersionUID = 1L;
    final int number;

    Refusal(int number) {
      super(null, null, false, false);
      this.number = number;
    }
  }

  /** The first byte that can't stand there. */
  private static final class Fault extends RuntimeException {
    private static final long serialVersionUID = 1L;
    final int place;

    Fault(int place) {
      super(null, null, false, false);
      this.place = place;
    }
  }

  private static final class Cond {
    final int kind;
    int sign = NONE;
    int x = NONE;
    int y = NONE;
    String columns = "";
    List<Integer> numbers = new ArrayList<>();

    Cond(int kind) {
      this.kind = kind;
    }
  }

  private static final class Row {
    final int sort;
    final List<Long> elements;

    Row(int sort, int n) {
      this.sort = sort;
      elements = new ArrayList<>(Collections.nCopies(n, 0L));
    }
  }

  private List<int[]> lines = new ArrayList<>();
  private List<Cond> conds = new ArrayList<>();
  private int price = 4;
  private int seed = 1;
  private final List<Integer> tape = new ArrayList<>();
  private final Object[] shelves = new Object[8]; // null, a Row, or an Integer
  private final TreeMap<Integer, Integer> refusals = new TreeMap<>();
  private Object[] image;
  private final List<String[]> truths = new ArrayList<>(); // of each condition, by KEY in INDEX 0

  // ---- refusals ----

  private int told(java.util.function.IntSupplier call) {
    try {
      return call.getAsInt();
    } catch (Refusal refusal) {
      int counted = refusal.number <= -200 ? -102 : refusal.number;
      refusals.merge(counted, 1, Integer::sum);
      return refusal.number;
    }
  }

  private static void want(boolean so, int number) {
    if (!so) {
      throw new Refusal(number);
    }
  }

  private static void bad(boolean is) {
    want(!is, -102);
  }

  private static void number(int v, int least, int most) {
    bad(v < least || v > most);
  }

  private Row rowIn(int s) {
    want(!(shelves[s] instanceof Integer), -103);
    want(shelves[s] != null, -104);
    return (Row) shelves[s];
  }

  private void condition(int c) {
    number(c, 0, conds.size() - 1);
  }

  private void lineThere(int line) {
    number(line, 0, lines.size() - 1);
  }

  // ---- truth ----

  private String compare(int had, int sign, int with) {
    if (had == 0 || with == 0) {
      return "DOUBT";
    }
    boolean so = SIGNS.charAt(sign) == '<' && had < with
        || SIGNS.charAt(sign) == '=' && had == with
        || SIGNS.charAt(sign) == '>' && had > with
        || SIGNS.charAt(sign) == '~' && had != with;
    return so ? "TRUE" : "FALSE";
  }

  private static String not(String truth) {
    return truth.equals("TRUE") ? "FALSE" : truth.equals("FALSE") ? "TRUE" : "DOUBT";
  }

  private static int has(int[] line, char column) {
    return line["abc".indexOf(column)];
  }

  private String is(Cond c, int[] line, int key0) {
    switch (c.kind) {
      case 0:
        return compare(has(line, c.columns.charAt(0)), c.sign, c.numbers.get(0));
      case 1: {
        int had = has(line, c.columns.charAt(0));
        return had == 0 ? "DOUBT" : c.numbers.contains(had) ? "TRUE" : "FALSE";
      }
      case 2:
        return has(line, c.columns.charAt(0)) == 0 ? "TRUE" : "FALSE";
      case 3:
        return compare(has(line, c.columns.charAt(0)), c.sign, has(line, c.columns.charAt(1)));
      case 4: {
        int had = has(line, c.columns.charAt(0));
        return had == 0 ? "DOUBT" : had % c.numbers.get(0) == c.numbers.get(1) ? "TRUE" : "FALSE";
      }
      case 5:
        return severalIs(c, line);
      default:
        break;
    }
    String x = truths.get(c.x)[key0];
    String y = c.y == NONE ? null : truths.get(c.y)[key0];
    switch (c.kind) {
      case 6:
        return x.equals("FALSE") || y.equals("FALSE") ? "FALSE"
            : x.equals("DOUBT") || y.equals("DOUBT") ? "DOUBT" : "TRUE";
      case 7:
        return x.equals("TRUE") || y.equals("TRUE") ? "TRUE"
            : x.equals("DOUBT") || y.equals("DOUBT") ? "DOUBT" : "FALSE";
      case 8:
        return not(x);
      default:
        return x.equals("TRUE") ? "TRUE" : "FALSE";
    }
  }

  private String severalIs(Cond c, int[] line) {
    char sign = SIGNS.charAt(c.sign);
    if (sign == '<' || sign == '>') {
      for (int i = 0; i < c.columns.length(); i++) {
        String so = compare(has(line, c.columns.charAt(i)), c.sign, c.numbers.get(i));
        if (!so.equals("FALSE")) {
          return so;
        }
        if (has(line, c.columns.charAt(i)) != c.numbers.get(i)) {
          return "FALSE";
        }
      }
      return "FALSE";
    }
    boolean unequal = false;
    boolean missing = false;
    for (int i = 0; i < c.columns.length(); i++) {
      int had = has(line, c.columns.charAt(i));
      missing |= had == 0;
      unequal |= had != 0 && had != c.numbers.get(i);
    }
    String equal = unequal ? "FALSE" : missing ? "DOUBT" : "TRUE";
    return sign == '=' ? equal : not(equal);
  }

  private void addCond(Cond c) {
    String[] is = new String[1000];
    for (int key = 0; key < 1000; key++) {
      is[key] = is(c, new int[] {key / 100, key / 10 % 10, key % 10}, key);
    }
    conds.add(c);
    truths.add(is);
  }

  private int key(int[] line, int index) {
    StringBuilder digits = new StringBuilder();
    for (int i = 0; i < 3; i++) {
      digits.append(has(line, INDEX[index].charAt(i)));
    }
    return Integer.parseInt(digits.toString());
  }

  private int[] lineOfKey(int key, int index) {
    String digits = String.format("%03d", key);
    int[] line = new int[3];
    for (int i = 0; i < 3; i++) {
      line["abc".indexOf(INDEX[index].charAt(i))] = digits.charAt(i) - '0';
    }
    return line;
  }

  private final int[][] key0 = new int[6][1000];

  {
    for (int index = 0; index < 6; index++) {
      for (int key = 0; key < 1000; key++) {
        key0[index][key] = key(lineOfKey(key, index), 0);
      }
    }
  }

  private String at(int cond, int index, int key) {
    return truths.get(cond)[key0[index][key]];
  }

  private String of(int cond, int[] line) {
    return truths.get(cond)[key(line, 0)];
  }

  // ---- shelves ----

  int row(int s, int sort, int n) {
    return told(() -> {
      number(s, 0, 7);
      number(sort, 0, 4);
      number(n, 0, 40);
      shelves[s] = new Row(sort, n);
      return 1;
    });
  }

  int set(int s, int i, long v) {
    return told(() -> {
      number(s, 0, 7);
      Row row = rowIn(s);
      number(i, 0, row.elements.size() - 1);
      long[] kept = {(byte) v, (short) v, (int) v, v, v == 0 ? 0 : 1};
      row.elements.set(i, kept[row.sort]);
      return 1;
    });
  }

  int copy(int p, int q, int i, int j, int n) {
    return told(() -> {
      number(p, 0, 7);
      number(q, 0, 7);
      want(!(shelves[p] instanceof Integer) && !(shelves[q] instanceof Integer), -103);
      want(shelves[p] == null || shelves[q] == null
          || ((Row) shelves[p]).sort == ((Row) shelves[q]).sort, -103);
      Row from = rowIn(p);
      Row to = rowIn(q);
      bad(i < 0 || j < 0 || n < 0);
      bad((long) i + n > from.elements.size() || (long) j + n > to.elements.size());
      List<Long> were = new ArrayList<>(from.elements.subList(i, i + n));
      for (int k = 0; k < n; k++) {
        to.elements.set(j + k, were.get(k));
      }
      return n;
    });
  }

  long element(int s, int i) {
    if (s < 0 || s > 7 || !(shelves[s] instanceof Row)) {
      return 0;
    }
    List<Long> elements = ((Row) shelves[s]).elements;
    return i < 0 || i >= elements.size() ? 0 : elements.get(i);
  }

  int holds(int s) {
    if (s < 0 || s > 7 || shelves[s] == null) {
      return NONE;
    }
    return shelves[s] instanceof Row ? ((Row) shelves[s]).sort : 10 + (Integer) shelves[s];
  }

  int show(int s, int cond) {
    return told(() -> {
      number(s, 0, 7);
      number(cond, NONE, conds.size() - 1);
      shelves[s] = cond == NONE ? null : (Object) cond;
      return 1;
    });
  }

  int says(int s, int as) {
    return told(() -> {
      number(s, 0, 7);
      number(as, 0, 6);
      want(!(shelves[s] instanceof Row), -103);
      want(shelves[s] != null, -104);
      int number = (Integer) shelves[s];
      Cond c = conds.get(number);
      String[] kinds = {"0123456789", "012345", "0124", "67", "89", "6", "5"};
      want(kinds[as].indexOf('0' + c.kind) >= 0, -103);
      switch (as) {
        case 0:
          return keys(number, 1);
        case 1:
          return "abc".indexOf(c.columns.charAt(0));
        case 2: {
          int bits = 0;
          for (int v = 0; v < 10; v++) {
            if (is(c, new int[] {v, v, v}, 111 * v).equals("TRUE")) {
              bits += 1 << v;
            }
          }
          return bits;
        }
        case 3:
          return 100 * c.x + c.y;
        case 4:
          return c.x;
        case 5:
          return parts(number).size();
        default:
          return c.columns.length();
      }
    });
  }

  private Set<Integer> parts(int number) {
    Cond c = conds.get(number);
    if (c.kind != 6) {
      return Set.of(number);
    }
    Set<Integer> both = new HashSet<>(parts(c.x));
    if (c.y != c.x) {
      both.addAll(parts(c.y));
    }
    return both;
  }

  private static int bits(Set<Integer> numbers) {
    int bits = 0;
    for (int number : numbers) {
      bits |= 1 << number;
    }
    return bits;
  }

  // ---- the table ----

  int line(int a, int b, int c) {
    return told(() -> {
      number(a, 0, 9);
      number(b, 0, 9);
      number(c, 0, 9);
      want(lines.size() < 60, -106);
      lines.add(new int[] {a, b, c});
      return lines.size() - 1;
    });
  }

  int alter(int line, int column, int v) {
    return told(() -> {
      lineThere(line);
      number(column, 0, 2);
      number(v, 0, 9);
      int had = lines.get(line)[column];
      lines.get(line)[column] = v;
      return had;
    });
  }

  int strike(int line) {
    return told(() -> {
      lineThere(line);
      lines.remove(line);
      return lines.size();
    });
  }

  int price(int v) {
    return told(() -> {
      number(v, 0, 20);
      int ahead = price;
      price = v;
      return ahead;
    });
  }

  // ---- the tape ----

  int feed(int letter) {
    return told(() -> {
      number(letter, 0, 255);
      want(tape.size() < 250, -106);
      tape.add(letter);
      return tape.size();
    });
  }

  int wipe() {
    int ahead = tape.size();
    tape.clear();
    return ahead;
  }

  private String text;
  private int at;

  private char next() {
    while (at < text.length() && text.charAt(at) == ' ') {
      at++;
    }
    return at < text.length() ? text.charAt(at) : '\uffff';
  }

  private char oneOf(String allowed) {
    char c = next();
    if (allowed.indexOf(c) < 0) {
      throw new Fault(at);
    }
    at++;
    return c;
  }

  private void startReading() {
    StringBuilder all = new StringBuilder();
    for (int letter : tape) {
      all.append((char) letter);
    }
    text = all.toString();
    at = 0;
    tape.clear();
  }

  int table() {
    return told(() -> {
      startReading();
      List<int[]> news = new ArrayList<>();
      try {
        do {
          int[] line = new int[3];
          for (int i = 0; i < 3; i++) {
            line[i] = ".123456789".indexOf(oneOf(".123456789"));
          }
          news.add(line);
        } while (next() != '\uffff' && oneOf(";") == ';');
      } catch (Fault fault) {
        throw new Refusal(-200 - fault.place);
      }
      want(lines.size() + news.size() <= 60, -106);
      lines.addAll(news);
      return news.size();
    });
  }

  private List<Cond> readConds;

  int cond() {
    return told(() -> {
      startReading();
      readConds = new ArrayList<>();
      try {
        readCondition();
        if (next() != '\uffff') {
          throw new Fault(at);
        }
      } catch (Fault fault) {
        throw new Refusal(-200 - fault.place);
      }
      want(conds.size() + readConds.size() <= 24, -106);
      for (Cond c : readConds) {
        addCond(c);
      }
      return conds.size() - 1;
    });
  }

  private int come(Cond c) {
    readConds.add(c);
    return conds.size() + readConds.size() - 1;
  }

  private int over(int kind, int x, int y) {
    Cond c = new Cond(kind);
    c.x = x;
    c.y = y;
    return come(c);
  }

  private int readCondition() {
    int x = readEach();
    while (next() == '|') {
      at++;
      x = over(7, x, readEach());
    }
    return x;
  }

  private int readEach() {
    int x = readTurn();
    while (next() == '&') {
      at++;
      x = over(6, x, readTurn());
    }
    return x;
  }

  private int readTurn() {
    char first = oneOf("-+(abc");
    switch (first) {
      case '-':
        return over(8, readTurn(), NONE);
      case '+':
        return over(9, readTurn(), NONE);
      case '(': {
        int x = readCondition();
        oneOf(")");
        return x;
      }
      default:
        return come(readLeaf(first));
    }
  }

  private Cond readLeaf(char first) {
    String others = "abc".replace("" + first, "");
    char second = oneOf("<=>~[?%" + others);
    if (SIGNS.indexOf(second) >= 0) {
      char third = oneOf("123456789" + others);
      boolean digit = Character.isDigit(third);
      Cond c = new Cond(digit ? 0 : 3);
      c.sign = SIGNS.indexOf(second);
      c.columns = digit ? "" + first : "" + first + third;
      c.numbers.add(third - '0');
      return c;
    }
    if (second == '[') {
      Cond c = new Cond(1);
      c.columns = "" + first;
      char v = oneOf("123456789");
      while (v != ']') {
        c.numbers.add(v - '0');
        v = oneOf("123456789]");
      }
      return c;
    }
    if (second == '?') {
      Cond c = new Cond(2);
      c.columns = "" + first;
      return c;
    }
    if (second == '%') {
      Cond c = new Cond(4);
      c.columns = "" + first;
      int m = oneOf("23456789") - '0';
      c.numbers.add(m);
      c.numbers.add(oneOf("012345678".substring(0, m)) - '0');
      return c;
    }
    Cond c = new Cond(5);
    c.columns = "" + first + second;
    char third = oneOf(SIGNS + "abc".replace("" + first, "").replace("" + second, ""));
    if (SIGNS.indexOf(third) < 0) {
      c.columns += third;
      third = oneOf(SIGNS);
    }
    c.sign = SIGNS.indexOf(third);
    for (int i = 0; i < c.columns.length(); i++) {
      c.numbers.add(oneOf("123456789") - '0');
    }
    return c;
  }

  // ---- conditions ----

  private int settle(Cond c) {
    want(conds.size() < 24, -106);
    addCond(c);
    return conds.size() - 1;
  }

  private static String letter(int column) {
    number(column, 0, 2);
    return "abc".substring(column, column + 1);
  }

  int test(int column, int sign, int v) {
    return told(() -> {
      Cond c = new Cond(0);
      c.columns = letter(column);
      number(sign, 0, 3);
      number(v, 1, 9);
      c.sign = sign;
      c.numbers.add(v);
      return settle(c);
    });
  }

  int among(int column, int values) {
    return told(() -> {
      Cond c = new Cond(1);
      c.columns = letter(column);
      for (int bit = 0; bit < 32; bit++) {
        if ((values >>> bit) % 2 != 0) {
          number(bit, 1, 9);
          c.numbers.add(bit);
        }
      }
      bad(c.numbers.isEmpty());
      return settle(c);
    });
  }

  int gone(int column) {
    return told(() -> {
      Cond c = new Cond(2);
      c.columns = letter(column);
      return settle(c);
    });
  }

  int columns(int column, int sign, int other) {
    return told(() -> {
      Cond c = new Cond(3);
      c.columns = letter(column) + letter(other);
      bad(column == other);
      number(sign, 0, 3);
      c.sign = sign;
      return settle(c);
    });
  }

  int rest(int column, int m, int r) {
    return told(() -> {
      Cond c = new Cond(4);
      c.columns = letter(column);
      number(m, 2, 9);
      number(r, 0, m - 1);
      c.numbers.add(m);
      c.numbers.add(r);
      return settle(c);
    });
  }

  int several(int s, int n, int sign) {
    return told(() -> {
      number(s, 0, 7);
      number(sign, 0, 3);
      number(n, 2, 3);
      List<Long> told = rowIn(s).elements;
      bad(told.size() < 2 * n);
      Cond c = new Cond(5);
      c.sign = sign;
      for (int i = 0; i < n; i++) {
        long column = told.get(2 * i);
        long v = told.get(2 * i + 1);
        want(column >= 0 && column <= 2 && v >= 1 && v <= 9, -105);
        String letter = letter((int) column);
        want(c.columns.indexOf(letter) < 0, -105);
        c.columns += letter;
        c.numbers.add((int) v);
      }
      return settle(c);
    });
  }

  int pair(int kind, int x, int y) {
    return told(() -> {
      number(kind, 6, 7);
      condition(x);
      condition(y);
      Cond c = new Cond(kind);
      c.x = x;
      c.y = y;
      return settle(c);
    });
  }

  int turn(int kind, int x) {
    return told(() -> {
      number(kind, 8, 9);
      condition(x);
      Cond c = new Cond(kind);
      c.x = x;
      return settle(c);
    });
  }

  private void emptyShelvesOfNoCondition() {
    for (int s = 0; s < 8; s++) {
      if (shelves[s] instanceof Integer && (Integer) shelves[s] >= conds.size()) {
        shelves[s] = null;
      }
    }
  }

  int drop() {
    return told(() -> {
      want(!conds.isEmpty(), -105);
      conds.remove(conds.size() - 1);
      truths.remove(conds.size());
      emptyShelvesOfNoCondition();
      return conds.size();
    });
  }

  private Set<Integer> columnsIn(int number) {
    Cond c = conds.get(number);
    Set<Integer> all = new HashSet<>();
    for (char letter : c.columns.toCharArray()) {
      all.add("abc".indexOf(letter));
    }
    if (c.x != NONE) {
      all.addAll(columnsIn(c.x));
    }
    if (c.y != NONE && c.y != c.x) {
      all.addAll(columnsIn(c.y));
    }
    return all;
  }

  private int deep(int number) {
    Cond c = conds.get(number);
    if (c.x == NONE) {
      return 0;
    }
    int x = deep(c.x);
    return 1 + (c.y == NONE || c.y == c.x ? x : Math.max(x, deep(c.y)));
  }

  int condOf(int cond, int what) {
    return told(() -> {
      condition(cond);
      number(what, 0, 6);
      Cond c = conds.get(cond);
      switch (what) {
        case 0:
          return c.kind;
        case 1:
          return c.x;
        case 2:
          return c.y;
        case 3:
          return bits(columnsIn(cond));
        case 4:
          return c.sign;
        case 5:
          return deep(cond);
        default:
          return bits(parts(cond));
      }
    });
  }

  // ---- what comes of it ----

  int lineOf(int line, int column) {
    return told(() -> {
      lineThere(line);
      number(column, 0, 2);
      return lines.get(line)[column];
    });
  }

  int keyOf(int line, int index) {
    return told(() -> {
      lineThere(line);
      number(index, 0, 5);
      return key(lines.get(line), index);
    });
  }

  private void both(int cond, int index) {
    condition(cond);
    number(index, 0, 5);
  }

  int truth(int cond, int index, int key) {
    return told(() -> {
      both(cond, index);
      number(key, 0, 999);
      return List.of(TRUTH).indexOf(at(cond, index, key));
    });
  }

  int keys(int cond, int truth) {
    return told(() -> {
      condition(cond);
      number(truth, 0, 2);
      return Collections.frequency(List.of(truths.get(cond)), TRUTH[truth]);
    });
  }

  int lines(int cond, int truth) {
    return told(() -> {
      condition(cond);
      number(truth, 0, 2);
      int those = 0;
      for (int[] line : lines) {
        those += of(cond, line).equals(TRUTH[truth]) ? 1 : 0;
      }
      return those;
    });
  }

  int values(int cond, int column) {
    return told(() -> {
      condition(cond);
      number(column, 0, 2);
      Set<Integer> had = new HashSet<>();
      for (int key = 0; key < 1000; key++) {
        if (at(cond, 0, key).equals("TRUE")) {
          had.add(lineOfKey(key, 0)[column]);
        }
      }
      return bits(had);
    });
  }

  private List<int[]> runsOf(int cond, int index) {
    List<int[]> runs = new ArrayList<>();
    for (int key = 0; key < 1000; key++) {
      if (at(cond, index, key).equals("TRUE")) {
        if (key > 0 && at(cond, index, key - 1).equals("TRUE")) {
          runs.get(runs.size() - 1)[1] = key;
        } else {
          runs.add(new int[] {key, key});
        }
      }
    }
    return runs;
  }

  private static void joinDownTo(List<int[]> spans, int n) {
    while (spans.size() > n) {
      int closest = 0;
      for (int i = 0; i + 1 < spans.size(); i++) {
        int between = spans.get(i + 1)[0] - spans.get(i)[1] - 1;
        if (between < spans.get(closest + 1)[0] - spans.get(closest)[1] - 1) {
          closest = i;
        }
      }
      spans.get(closest)[1] = spans.get(closest + 1)[1];
      spans.remove(closest + 1);
    }
  }

  private List<int[]> planOf(int cond, int index, int n) {
    List<int[]> spans = runsOf(cond, index);
    joinDownTo(spans, n);
    return spans;
  }

  private static boolean within(List<int[]> spans, int key) {
    for (int[] span : spans) {
      if (key >= span[0] && key <= span[1]) {
        return true;
      }
    }
    return false;
  }

  private int cost(List<int[]> spans, int index) {
    int cost = price * spans.size();
    for (int[] line : lines) {
      cost += within(spans, key(line, index)) ? 1 : 0;
    }
    return cost;
  }

  int runs(int cond, int index) {
    return told(() -> {
      both(cond, index);
      return runsOf(cond, index).size();
    });
  }

  private static int ith(List<int[]> spans, int i) {
    number(i, 0, spans.size() - 1);
    return 1000 * spans.get(i)[0] + spans.get(i)[1];
  }

  int run(int cond, int index, int i) {
    return told(() -> {
      both(cond, index);
      return ith(runsOf(cond, index), i);
    });
  }

  int plan(int cond, int index, int n, int i) {
    return told(() -> {
      both(cond, index);
      number(n, 1, 40);
      List<int[]> spans = planOf(cond, index, n);
      return i == NONE ? spans.size() : ith(spans, i);
    });
  }

  int of(int cond, int index, int n, int what) {
    return told(() -> {
      both(cond, index);
      number(n, 1, 40);
      number(what, 0, 4);
      List<int[]> spans = planOf(cond, index, n);
      if (what == 3) {
        return cost(spans, index);
      }
      int those = 0;
      if (what == 0) {
        for (int key = 0; key < 1000; key++) {
          those += within(spans, key) && !at(cond, index, key).equals("TRUE") ? 1 : 0;
        }
        return those;
      }
      if (what == 4) {
        Set<Integer> still = new HashSet<>();
        for (int part : parts(cond)) {
          for (int key = 0; key < 1000; key++) {
            if (within(spans, key) && !at(part, index, key).equals("TRUE")) {
              still.add(part);
            }
          }
        }
        return bits(still);
      }
      for (int[] line : lines) {
        boolean read = within(spans, key(line, index));
        those += read && (what == 1 || !of(cond, line).equals("TRUE")) ? 1 : 0;
      }
      return those;
    });
  }

  private int[] bestOf(int cond, int index) {
    List<int[]> spans = runsOf(cond, index);
    int[] best = {NONE, Integer.MAX_VALUE};
    for (int n = 40; n >= 1; n--) {
      joinDownTo(spans, n);
      int cost = cost(spans, index);
      if (cost <= best[1]) {
        best = new int[] {n, cost};
      }
    }
    return best;
  }

  int best(int cond, int index, int what) {
    return told(() -> {
      both(cond, index);
      number(what, 0, 1);
      return bestOf(cond, index)[what];
    });
  }

  int bestIndex(int cond, int what) {
    return told(() -> {
      condition(cond);
      number(what, 0, 1);
      int[] best = {NONE, Integer.MAX_VALUE};
      for (int index = 0; index < 6; index++) {
        int cost = bestOf(cond, index)[1];
        if (cost < best[1]) {
          best = new int[] {index, cost};
        }
      }
      return best[what];
    });
  }

  int seek(int cond, int index, int key, int what) {
    return told(() -> {
      both(cond, index);
      number(what, 0, 1);
      int sought = NONE;
      for (int k = 0; k < 1000; k++) {
        if (at(cond, index, k).equals("TRUE")) {
          if (what == 0 && k >= key && sought == NONE || what == 1 && k <= key) {
            sought = k;
          }
        }
      }
      return sought;
    });
  }

  int leaders(int cond, int index, int k, int what) {
    return told(() -> {
      both(cond, index);
      number(k, 1, 2);
      number(what, 0, 1);
      Set<String> firsts = new HashSet<>();
      for (int key = 0; what == 0 && key < 1000; key++) {
        if (at(cond, index, key).equals("TRUE")) {
          firsts.add(String.format("%03d", key).substring(0, k));
        }
      }
      for (int i = 0; what == 1 && i < lines.size(); i++) {
        if (of(cond, lines.get(i)).equals("TRUE")) {
          firsts.add(String.format("%03d", key(lines.get(i), index)).substring(0, k));
        }
      }
      return firsts.size();
    });
  }

  private List<Integer> orderOf(int cond, int index, int k) {
    List<Integer> found = new ArrayList<>();
    for (int i = 0; i < lines.size(); i++) {
      if (of(cond, lines.get(i)).equals("TRUE")) {
        found.add(i);
      }
    }
    Comparator<Integer> byTail = Comparator.comparing(
        i -> String.format("%03d", key(lines.get(i), index)).substring(k));
    found.sort(byTail.thenComparing(i -> key(lines.get(i), index)).thenComparing(i -> i));
    return found;
  }

  int found(int cond, int index, int i) {
    return told(() -> {
      both(cond, index);
      List<Integer> found = orderOf(cond, index, 0);
      if (i == NONE) {
        return found.size();
      }
      number(i, 0, found.size() - 1);
      return found.get(i);
    });
  }

  int order(int cond, int index, int k, int i) {
    return told(() -> {
      both(cond, index);
      number(k, 0, 2);
      List<Integer> found = orderOf(cond, index, k);
      number(i, 0, found.size() - 1);
      return found.get(i);
    });
  }

  int behind(int cond, int index, int line) {
    return told(() -> {
      both(cond, index);
      lineThere(line);
      int key = key(lines.get(line), index);
      for (int found : orderOf(cond, index, 0)) {
        int other = key(lines.get(found), index);
        if (other > key || other == key && found > line) {
          return found;
        }
      }
      return NONE;
    });
  }

  int implies(int x, int y) {
    return told(() -> {
      condition(x);
      condition(y);
      for (int key = 0; key < 1000; key++) {
        if (at(x, 0, key).equals("TRUE") && !at(y, 0, key).equals("TRUE")) {
          return key;
        }
      }
      return NONE;
    });
  }

  private int unlike(int x, int y) {
    for (int key = 0; key < 1000; key++) {
      if (!at(x, 0, key).equals(at(y, 0, key))) {
        return key;
      }
    }
    return NONE;
  }

  int alike(int x, int y) {
    return told(() -> {
      condition(x);
      condition(y);
      return unlike(x, y);
    });
  }

  int same(int cond) {
    return told(() -> {
      condition(cond);
      int least = cond;
      for (int other = cond; other >= 0; other--) {
        if (unlike(other, cond) == NONE) {
          least = other;
        }
      }
      return least;
    });
  }

  int signs(int column, int v, int s, int n) {
    return told(() -> {
      number(column, 0, 2);
      number(v, 1, 9);
      number(s, 0, 7);
      number(n, 0, 20);
      List<Long> told = rowIn(s).elements;
      bad(told.size() < 2 * n);
      int bits = 15;
      for (int i = 0; i < n; i++) {
        long line = told.get(2 * i);
        long so = told.get(2 * i + 1);
        want(line >= 0 && line < lines.size() && (so == 0 || so == 1), -105);
        for (int sign = 0; sign < 4; sign++) {
          String is = compare(lines.get((int) line)[column], sign, v);
          if (is.equals("TRUE") != (so == 1)) {
            bits &= ~(1 << sign);
          }
        }
      }
      return bits;
    });
  }

  int judge(int cond, int index, int s, int n) {
    return told(() -> {
      both(cond, index);
      number(s, 0, 7);
      number(n, 0, 40);
      List<Long> told = rowIn(s).elements;
      bad(told.size() < n);
      List<Integer> found = orderOf(cond, index, 0);
      for (int i = 0; i < n; i++) {
        if (i >= found.size() || found.get(i).longValue() != told.get(i)) {
          return i;
        }
      }
      return found.size() == n ? NONE : n;
    });
  }

  int many(int column, int v) {
    return told(() -> {
      number(column, 0, 2);
      number(v, 0, 9);
      int those = 0;
      for (int[] line : lines) {
        those += line[column] == v ? 1 : 0;
      }
      return those;
    });
  }

  int whatIf(int cond, int line, int column, int v) {
    return told(() -> {
      condition(cond);
      lineThere(line);
      number(column, 0, 2);
      number(v, 0, 9);
      int those = 0;
      for (int i = 0; i < lines.size(); i++) {
        int[] it = lines.get(i).clone();
        if (i == line) {
          it[column] = v;
        }
        those += of(cond, it).equals("TRUE") ? 1 : 0;
      }
      return those;
    });
  }

  // ---- days, the image, how things stand ----

  private int draw(int below) {
    seed = (int) (seed * 1103515245L + 12345L);
    return (int) ((seed & 0xffffffffL) / 65536 % below);
  }

  int days(int n) {
    return told(() -> {
      number(n, 1, 60);
      for (int i = 0; i < n; i++) {
        int[] line = {draw(10), draw(10), draw(10)};
        if (lines.size() < 60) {
          lines.add(line);
        } else {
          lines.set(draw(60), line);
        }
        if (draw(8) == 0) {
          lines.remove(draw(lines.size()));
        }
      }
      return lines.size();
    });
  }

  int seed(int v) {
    int ahead = seed;
    seed = v;
    return ahead;
  }

  private static List<int[]> cloned(List<int[]> lines) {
    List<int[]> all = new ArrayList<>();
    for (int[] line : lines) {
      all.add(line.clone());
    }
    return all;
  }

  int image() {
    image = new Object[] {cloned(lines), new ArrayList<>(conds), price, seed};
    return 1;
  }

  @SuppressWarnings("unchecked")
  int back() {
    return told(() -> {
      want(image != null, -105);
      lines = cloned((List<int[]>) image[0]);
      conds = new ArrayList<>();
      truths.clear();
      for (Cond c : (List<Cond>) image[1]) {
        addCond(c);
      }
      price = (Integer) image[2];
      seed = (Integer) image[3];
      emptyShelvesOfNoCondition();
      return 1;
    });
  }

  int status(int what) {
    Set<Integer> keys = new HashSet<>();
    int missing = 0;
    for (int[] line : lines) {
      keys.add(key(line, 0));
      for (int v : line) {
        missing += v == 0 ? 1 : 0;
      }
    }
    int holding = 0;
    for (Object shelf : shelves) {
      holding += shelf == null ? 0 : 1;
    }
    int[] all = {
      lines.size(), conds.size(), price, keys.size(), missing, tape.size(), seed, holding
    };
    if (what >= 0 && what < all.length) {
      return all[what];
    }
    return what >= 12 && what <= 16 ? refusals.getOrDefault(-90 - what, 0) : NONE;
  }
}
