/**
 * A table of lines with three columns, conditions over them that are true, false or in doubt, and
 * the spans of keys by which an index finds the lines for which a condition is true.
 *
 * <p>Every array is made once, by the constructors, and used again by all calls: a run of calls
 * must live in a small room.
 */
public final class SkippingKeys {
  public static final int NONE = -1;

  private static final int FINE = 0;
  private static final int BAD = -102;
  private static final int OTHER = -103;
  private static final int NOTHING = -104;
  private static final int STUCK = -105;
  private static final int FULL = -106;
  private static final int REFUSAL_SORTS = 5;
  private static final int FAULT_BASE = -200;

  private static final int COLUMNS_IN_ALL = 3;
  private static final int INDEXES = 6;
  private static final int KEYS = 1000;
  private static final int DIGITS = 10;
  private static final int MISSING = 0;

  /** The columns of the indexes abc, acb, bac, bca, cab, cba, three for each. */
  private static final int[] COLUMN_AT = {0, 1, 2, 0, 2, 1, 1, 0, 2, 1, 2, 0, 2, 0, 1, 2, 1, 0};

  /** What a column's digit counts in a key of index 0. */
  private static final int[] WEIGHT = {100, 10, 1};

  private static final int FALSE = 0;
  private static final int TRUE = 1;
  private static final int DOUBT = 2;

  private static final int LESS = 0;
  private static final int EQUAL = 1;
  private static final int GREATER = 2;
  private static final int UNEQUAL = 3;

  private static final int TEST = 0;
  private static final int AMONG = 1;
  private static final int GONE = 2;
  private static final int COLUMNS = 3;
  private static final int REST = 4;
  private static final int SEVERAL = 5;
  private static final int AND = 6;
  private static final int OR = 7;
  private static final int NOT = 8;
  private static final int SURE = 9;

  private static final int MOST_PRICE = 20;
  private static final int MOST_SPANS = 40;
  private static final int MOST_DAYS = 60;
  private static final int MOST_TOLD = 20;
  private static final int VALUE_BITS = 0x3FE;

  private final Lines lines;
  private final Lines keptLines;
  private final Conditions conditions;
  private final Conditions keptConditions;
  private final Shelves shelves;
  private final Tape tape;
  private final Reader reader;
  private final Spans spans;
  private final Ranking ranking;
  private final int[] refusals;
  private final boolean[] seen;
  private boolean hasImage;

  public SkippingKeys() {
    lines = new Lines();
    keptLines = new Lines();
    conditions = new Conditions();
    keptConditions = new Conditions();
    shelves = new Shelves();
    tape = new Tape();
    reader = new Reader();
    spans = new Spans();
    ranking = new Ranking();
    refusals = new int[REFUSAL_SORTS];
    seen = new boolean[KEYS];
    hasImage = false;
  }

  // ---- shelves ----

  public int row(int s, int sort, int n) {
    if (!Shelves.isShelf(s) || !isWithin(sort, 0, Shelves.BOOLEANS)
        || !isWithin(n, 0, Shelves.ROW_SIZE)) {
      return refuse(BAD);
    }
    shelves.layRow(s, sort, n);
    return 1;
  }

  public int set(int s, int i, long v) {
    if (!Shelves.isShelf(s)) {
      return refuse(BAD);
    }
    int why = shelves.whyNoRow(s);
    if (why != FINE) {
      return refuse(why);
    }
    if (!shelves.hasElement(s, i)) {
      return refuse(BAD);
    }
    shelves.put(s, i, v);
    return 1;
  }

  public int copy(int p, int q, int i, int j, int n) {
    if (!Shelves.isShelf(p) || !Shelves.isShelf(q)) {
      return refuse(BAD);
    }
    int why = shelves.whyNoTwoRows(p, q);
    if (why != FINE) {
      return refuse(why);
    }
    if (!shelves.hasPart(p, i, n) || !shelves.hasPart(q, j, n)) {
      return refuse(BAD);
    }
    shelves.carry(p, q, i, j, n);
    return n;
  }

  public long element(int s, int i) {
    if (!Shelves.isShelf(s) || shelves.whyNoRow(s) != FINE || !shelves.hasElement(s, i)) {
      return 0;
    }
    return shelves.elementAt(s, i);
  }

  public int holds(int s) {
    return Shelves.isShelf(s) ? shelves.heldBy(s) : NONE;
  }

  public int show(int s, int cond) {
    if (!Shelves.isShelf(s) || cond != NONE && !conditions.has(cond)) {
      return refuse(BAD);
    }
    if (cond == NONE) {
      shelves.empty(s);
    } else {
      shelves.holdCondition(s, cond);
    }
    return 1;
  }

  public int says(int s, int as) {
    if (!Shelves.isShelf(s) || !isWithin(as, 0, 6)) {
      return refuse(BAD);
    }
    if (shelves.heldBy(s) == NONE) {
      return refuse(NOTHING);
    }
    int number = shelves.conditionIn(s);
    if (!conditions.has(number) || !conditions.at(number).isOfSort(as)) {
      return refuse(OTHER);
    }
    return conditions.at(number).toldAs(as);
  }

  // ---- the table ----

  public int line(int a, int b, int c) {
    if (!isDigit(a) || !isDigit(b) || !isDigit(c)) {
      return refuse(BAD);
    }
    if (lines.count >= Lines.MOST) {
      return refuse(FULL);
    }
    lines.add(a, b, c);
    return lines.count - 1;
  }

  public int alter(int line, int column, int v) {
    if (!lines.has(line) || !isColumn(column) || !isDigit(v)) {
      return refuse(BAD);
    }
    int had = lines.valueOf(line, column);
    lines.put(line, column, v);
    return had;
  }

  public int strike(int line) {
    if (!lines.has(line)) {
      return refuse(BAD);
    }
    lines.remove(line);
    return lines.count;
  }

  public int price(int v) {
    if (!isWithin(v, 0, MOST_PRICE)) {
      return refuse(BAD);
    }
    int ahead = lines.price;
    lines.price = v;
    return ahead;
  }

  // ---- the tape ----

  public int feed(int letter) {
    if (!isWithin(letter, 0, 255)) {
      return refuse(BAD);
    }
    if (tape.size >= Tape.MOST) {
      return refuse(FULL);
    }
    tape.append(letter);
    return tape.size;
  }

  public int wipe() {
    int ahead = tape.size;
    tape.wipeAll();
    return ahead;
  }

  public int table() {
    boolean whole = reader.readTable(tape);
    int fault = tape.place;
    tape.wipeAll();
    if (!whole) {
      refuse(BAD);
      return FAULT_BASE - fault;
    }
    int news = reader.lineCount();
    if (lines.count + news > Lines.MOST) {
      return refuse(FULL);
    }
    for (int i = 0; i < news; i++) {
      lines.add(reader.valueRead(i, 0), reader.valueRead(i, 1), reader.valueRead(i, 2));
    }
    return news;
  }

  public int cond() {
    boolean whole = reader.readCondition(tape, conditions);
    int fault = tape.place;
    tape.wipeAll();
    if (!whole) {
      conditions.forgetDrafts();
      refuse(BAD);
      return FAULT_BASE - fault;
    }
    return settled();
  }

  // ---- conditions ----

  public int test(int column, int sign, int v) {
    if (!isColumn(column) || !isSign(sign) || !isValue(v)) {
      return refuse(BAD);
    }
    conditions.draft(TEST, sign).addColumn(column, v);
    return settled();
  }

  public int among(int column, int values) {
    if (!isColumn(column) || values == 0 || (values & ~VALUE_BITS) != 0) {
      return refuse(BAD);
    }
    conditions.draft(AMONG, NONE).addColumn(column, values);
    return settled();
  }

  public int gone(int column) {
    if (!isColumn(column)) {
      return refuse(BAD);
    }
    conditions.draft(GONE, NONE).addColumn(column, MISSING);
    return settled();
  }

  public int columns(int column, int sign, int other) {
    if (!isColumn(column) || !isSign(sign) || !isColumn(other) || column == other) {
      return refuse(BAD);
    }
    Condition draft = conditions.draft(COLUMNS, sign);
    draft.addColumn(column, MISSING);
    draft.addColumn(other, MISSING);
    return settled();
  }

  public int rest(int column, int m, int r) {
    if (!isColumn(column) || !isWithin(m, 2, 9) || !isWithin(r, 0, m - 1)) {
      return refuse(BAD);
    }
    Condition draft = conditions.draft(REST, NONE);
    draft.addColumn(column, m);
    draft.remainder = r;
    return settled();
  }

  public int several(int s, int n, int sign) {
    if (!Shelves.isShelf(s) || !isSign(sign) || !isWithin(n, 2, COLUMNS_IN_ALL)) {
      return refuse(BAD);
    }
    int why = shelves.whyNoRowOf(s, 2 * n);
    if (why != FINE) {
      return refuse(why);
    }
    if (!tellsSeveral(s, n)) {
      return refuse(STUCK);
    }
    Condition draft = conditions.draft(SEVERAL, sign);
    for (int i = 0; i < n; i++) {
      draft.addColumn((int) shelves.elementAt(s, 2 * i), (int) shelves.elementAt(s, 2 * i + 1));
    }
    return settled();
  }

  public int pair(int kind, int x, int y) {
    if (kind != AND && kind != OR || !conditions.has(x) || !conditions.has(y)) {
      return refuse(BAD);
    }
    conditions.draftOver(kind, x, y);
    return settled();
  }

  public int turn(int kind, int x) {
    if (kind != NOT && kind != SURE || !conditions.has(x)) {
      return refuse(BAD);
    }
    conditions.draftOver(kind, x, NONE);
    return settled();
  }

  public int drop() {
    if (conditions.count == 0) {
      return refuse(STUCK);
    }
    conditions.count--;
    shelves.forgetConditionsFrom(conditions.count);
    return conditions.count;
  }

  public int condOf(int cond, int what) {
    if (!conditions.has(cond)) {
      return refuse(BAD);
    }
    Condition it = conditions.at(cond);
    switch (what) {
      case 0:
        return it.kind;
      case 1:
        return it.x;
      case 2:
        return it.y;
      case 3:
        return it.columnBits;
      case 4:
        return it.sign;
      case 5:
        return it.deep;
      case 6:
        return it.parts;
      default:
        return refuse(BAD);
    }
  }

  // ---- what lines and keys are ----

  public int lineOf(int line, int column) {
    if (!lines.has(line) || !isColumn(column)) {
      return refuse(BAD);
    }
    return lines.valueOf(line, column);
  }

  public int keyOf(int line, int index) {
    if (!lines.has(line) || !isIndex(index)) {
      return refuse(BAD);
    }
    return lines.keyIn(line, index);
  }

  public int truth(int cond, int index, int key) {
    if (!isCondAndIndex(cond, index) || !isWithin(key, 0, KEYS - 1)) {
      return refuse(BAD);
    }
    return conditions.at(cond).truthAt(placeOf(index, key));
  }

  public int keys(int cond, int truth) {
    if (!conditions.has(cond) || !isTruth(truth)) {
      return refuse(BAD);
    }
    return conditions.at(cond).countKeys(truth);
  }

  public int lines(int cond, int truth) {
    if (!conditions.has(cond) || !isTruth(truth)) {
      return refuse(BAD);
    }
    return lines.countOf(conditions.at(cond), truth);
  }

  public int values(int cond, int column) {
    if (!conditions.has(cond) || !isColumn(column)) {
      return refuse(BAD);
    }
    return conditions.at(cond).valuesIn(column);
  }

  // ---- runs and plans ----

  public int runs(int cond, int index) {
    if (!isCondAndIndex(cond, index)) {
      return refuse(BAD);
    }
    spans.layOut(conditions.at(cond), index);
    return spans.count;
  }

  public int run(int cond, int index, int i) {
    if (!isCondAndIndex(cond, index)) {
      return refuse(BAD);
    }
    spans.layOut(conditions.at(cond), index);
    if (!isWithin(i, 0, spans.count - 1)) {
      return refuse(BAD);
    }
    return spans.runTold(i);
  }

  public int plan(int cond, int index, int n, int i) {
    if (!isCondAndIndex(cond, index) || !isWithin(n, 1, MOST_SPANS)) {
      return refuse(BAD);
    }
    spans.layOut(conditions.at(cond), index);
    int size = spans.planSize(n);
    if (i == NONE) {
      return size;
    }
    if (!isWithin(i, 0, size - 1)) {
      return refuse(BAD);
    }
    spans.joinDownTo(n);
    return spans.spanTold(i);
  }

  public int of(int cond, int index, int n, int what) {
    if (!isCondAndIndex(cond, index) || !isWithin(n, 1, MOST_SPANS) || !isWithin(what, 0, 4)) {
      return refuse(BAD);
    }
    Condition it = conditions.at(cond);
    spans.layOut(it, index);
    spans.joinDownTo(n);
    switch (what) {
      case 0:
        return spans.countKeysBetween();
      case 1:
        return spans.countRead(lines, index);
      case 2:
        return spans.countRead(lines, index) - lines.countOf(it, TRUE);
      case 3:
        return lines.price * spans.planSize(n) + spans.countRead(lines, index);
      default:
        return stillToTest(it.parts, index);
    }
  }

  public int best(int cond, int index, int what) {
    if (!isCondAndIndex(cond, index) || !isWithin(what, 0, 1)) {
      return refuse(BAD);
    }
    spans.layOut(conditions.at(cond), index);
    spans.findBest(lines, index);
    return what == 0 ? spans.bestSize : spans.bestCost;
  }

  public int bestIndex(int cond, int what) {
    if (!conditions.has(cond) || !isWithin(what, 0, 1)) {
      return refuse(BAD);
    }
    int best = NONE;
    int cost = 0;
    for (int index = 0; index < INDEXES; index++) {
      spans.layOut(conditions.at(cond), index);
      spans.findBest(lines, index);
      if (best == NONE || spans.bestCost < cost) {
        best = index;
        cost = spans.bestCost;
      }
    }
    return what == 0 ? best : cost;
  }

  public int seek(int cond, int index, int key, int what) {
    if (!isCondAndIndex(cond, index) || !isWithin(what, 0, 1)) {
      return refuse(BAD);
    }
    Condition it = conditions.at(cond);
    return what == 0 ? seekUp(it, index, key) : seekDown(it, index, key);
  }

  public int leaders(int cond, int index, int k, int what) {
    if (!isCondAndIndex(cond, index) || !isWithin(k, 1, 2) || !isWithin(what, 0, 1)) {
      return refuse(BAD);
    }
    Condition it = conditions.at(cond);
    int behindThem = k == 1 ? 100 : 10;
    clearSeen();
    if (what == 0) {
      for (int key = 0; key < KEYS; key++) {
        if (it.truthAt(placeOf(index, key)) == TRUE) {
          seen[key / behindThem] = true;
        }
      }
    } else {
      for (int line = 0; line < lines.count; line++) {
        if (lines.truthOf(it, line) == TRUE) {
          seen[lines.keyIn(line, index) / behindThem] = true;
        }
      }
    }
    return countSeen();
  }

  // ---- lines found ----

  public int found(int cond, int index, int i) {
    if (!isCondAndIndex(cond, index)) {
      return refuse(BAD);
    }
    ranking.rank(lines, conditions.at(cond), index, 0);
    if (i == NONE) {
      return ranking.count;
    }
    return isWithin(i, 0, ranking.count - 1) ? ranking.lineAt(i) : refuse(BAD);
  }

  public int order(int cond, int index, int k, int i) {
    if (!isCondAndIndex(cond, index) || !isWithin(k, 0, 2)) {
      return refuse(BAD);
    }
    ranking.rank(lines, conditions.at(cond), index, k);
    return isWithin(i, 0, ranking.count - 1) ? ranking.lineAt(i) : refuse(BAD);
  }

  public int behind(int cond, int index, int line) {
    if (!isCondAndIndex(cond, index) || !lines.has(line)) {
      return refuse(BAD);
    }
    ranking.rank(lines, conditions.at(cond), index, 0);
    return ranking.firstBehind(Ranking.codeOf(lines.keyIn(line, index), 0, line));
  }

  // ---- conditions against one another ----

  public int implies(int x, int y) {
    if (!conditions.has(x) || !conditions.has(y)) {
      return refuse(BAD);
    }
    Condition one = conditions.at(x);
    Condition two = conditions.at(y);
    for (int place = 0; place < KEYS; place++) {
      if (one.truthAt(place) == TRUE && two.truthAt(place) != TRUE) {
        return place;
      }
    }
    return NONE;
  }

  public int alike(int x, int y) {
    if (!conditions.has(x) || !conditions.has(y)) {
      return refuse(BAD);
    }
    return conditions.at(x).firstUnlike(conditions.at(y));
  }

  public int same(int cond) {
    if (!conditions.has(cond)) {
      return refuse(BAD);
    }
    for (int lesser = 0; lesser < cond; lesser++) {
      if (conditions.at(lesser).firstUnlike(conditions.at(cond)) == NONE) {
        return lesser;
      }
    }
    return cond;
  }

  // ---- lines told ----

  public int signs(int column, int v, int s, int n) {
    if (!isColumn(column) || !isValue(v) || !Shelves.isShelf(s) || !isWithin(n, 0, MOST_TOLD)) {
      return refuse(BAD);
    }
    int why = shelves.whyNoRowOf(s, 2 * n);
    if (why != FINE) {
      return refuse(why);
    }
    if (!tellsLines(s, n)) {
      return refuse(STUCK);
    }
    int bits = 0;
    for (int sign = LESS; sign <= UNEQUAL; sign++) {
      if (fitsTold(column, sign, v, s, n)) {
        bits |= 1 << sign;
      }
    }
    return bits;
  }

  public int judge(int cond, int index, int s, int n) {
    if (!isCondAndIndex(cond, index) || !Shelves.isShelf(s)
        || !isWithin(n, 0, Shelves.ROW_SIZE)) {
      return refuse(BAD);
    }
    int why = shelves.whyNoRowOf(s, n);
    if (why != FINE) {
      return refuse(why);
    }
    ranking.rank(lines, conditions.at(cond), index, 0);
    for (int i = 0; i < n; i++) {
      if (i >= ranking.count || ranking.lineAt(i) != shelves.elementAt(s, i)) {
        return i;
      }
    }
    return ranking.count > n ? n : NONE;
  }

  public int many(int column, int v) {
    if (!isColumn(column) || !isDigit(v)) {
      return refuse(BAD);
    }
    return lines.countValue(column, v);
  }

  public int whatIf(int cond, int line, int column, int v) {
    if (!conditions.has(cond) || !lines.has(line) || !isColumn(column) || !isDigit(v)) {
      return refuse(BAD);
    }
    Condition it = conditions.at(cond);
    int had = lines.valueOf(line, column);
    lines.put(line, column, v);
    int count = lines.countOf(it, TRUE);
    lines.put(line, column, had);
    return count;
  }

  // ---- days, the image, how things stand ----

  public int days(int n) {
    if (!isWithin(n, 1, MOST_DAYS)) {
      return refuse(BAD);
    }
    for (int i = 0; i < n; i++) {
      lines.liveDay();
    }
    return lines.count;
  }

  public int seed(int v) {
    int ahead = lines.seed;
    lines.seed = v;
    return ahead;
  }

  public int image() {
    keptLines.copyFrom(lines);
    keptConditions.copyFrom(conditions);
    hasImage = true;
    return 1;
  }

  public int back() {
    if (!hasImage) {
      return refuse(STUCK);
    }
    lines.copyFrom(keptLines);
    conditions.copyFrom(keptConditions);
    shelves.forgetConditionsFrom(conditions.count);
    return 1;
  }

  public int status(int what) {
    switch (what) {
      case 0:
        return lines.count;
      case 1:
        return conditions.count;
      case 2:
        return lines.price;
      case 3:
        return countDifferentKeys();
      case 4:
        return lines.countValue(0, MISSING) + lines.countValue(1, MISSING)
            + lines.countValue(2, MISSING);
      case 5:
        return tape.size;
      case 6:
        return lines.seed;
      case 7:
        return shelves.countHolding();
      default:
        return isWithin(what, 12, 11 + REFUSAL_SORTS) ? refusals[what - 12] : NONE;
    }
  }

  // ---- what the calls share ----

  /** Counts a refusal; its number is also the answer of the call. */
  private int refuse(int number) {
    int sort = BAD - number;
    if (sort >= 0 && sort < REFUSAL_SORTS) {
      refusals[sort]++;
    }
    return number;
  }

  /** Takes all drafts as conditions, or none of them: the number of the last one, or FULL. */
  private int settled() {
    if (!conditions.fitsDrafts()) {
      conditions.forgetDrafts();
      return refuse(FULL);
    }
    conditions.settleDrafts();
    return conditions.count - 1;
  }

  private boolean isCondAndIndex(int cond, int index) {
    return conditions.has(cond) && isIndex(index);
  }

  /** Whether the first n twos of a row name columns, none twice, and values: several's. */
  private boolean tellsSeveral(int s, int n) {
    int named = 0;
    for (int i = 0; i < n; i++) {
      // Compared as longs: a long that a cast to int would make a column is none.
      long column = shelves.elementAt(s, 2 * i);
      long value = shelves.elementAt(s, 2 * i + 1);
      if (column < 0 || column >= COLUMNS_IN_ALL || value < 1 || value > 9) {
        return false;
      }
      int bit = 1 << (int) column;
      if ((named & bit) != 0) {
        return false;
      }
      named |= bit;
    }
    return true;
  }

  /** Whether the first n twos of a row are lines, each with 0 or 1. */
  private boolean tellsLines(int s, int n) {
    for (int i = 0; i < n; i++) {
      long line = shelves.elementAt(s, 2 * i);
      long so = shelves.elementAt(s, 2 * i + 1);
      if (line < 0 || line >= lines.count || so < 0 || so > 1) {
        return false;
      }
    }
    return true;
  }

  private boolean fitsTold(int column, int sign, int v, int s, int n) {
    for (int i = 0; i < n; i++) {
      int line = (int) shelves.elementAt(s, 2 * i);
      boolean told = shelves.elementAt(s, 2 * i + 1) == 1;
      if ((compared(lines.valueOf(line, column), sign, v) == TRUE) != told) {
        return false;
      }
    }
    return true;
  }

  /** Which of the parts aren't TRUE for all keys of the plan that stands in spans. */
  private int stillToTest(int parts, int index) {
    int still = 0;
    for (int number = 0; number < conditions.count; number++) {
      if ((parts & 1 << number) != 0 && !isTrueInPlan(conditions.at(number), index)) {
        still |= 1 << number;
      }
    }
    return still;
  }

  private boolean isTrueInPlan(Condition part, int index) {
    for (int key = 0; key < KEYS; key++) {
      if (spans.planHas(key) && part.truthAt(placeOf(index, key)) != TRUE) {
        return false;
      }
    }
    return true;
  }

  private static int seekUp(Condition it, int index, int from) {
    for (int key = Math.max(from, 0); key < KEYS; key++) {
      if (it.truthAt(placeOf(index, key)) == TRUE) {
        return key;
      }
    }
    return NONE;
  }

  private static int seekDown(Condition it, int index, int from) {
    for (int key = Math.min(from, KEYS - 1); key >= 0; key--) {
      if (it.truthAt(placeOf(index, key)) == TRUE) {
        return key;
      }
    }
    return NONE;
  }

  private int countDifferentKeys() {
    clearSeen();
    for (int line = 0; line < lines.count; line++) {
      seen[lines.keyIn(line, 0)] = true;
    }
    return countSeen();
  }

  private void clearSeen() {
    for (int i = 0; i < seen.length; i++) {
      seen[i] = false;
    }
  }

  private int countSeen() {
    int count = 0;
    for (int i = 0; i < seen.length; i++) {
      if (seen[i]) {
        count++;
      }
    }
    return count;
  }

  private static boolean isWithin(int number, int least, int most) {
    return number >= least && number <= most;
  }

  private static boolean isColumn(int column) {
    return isWithin(column, 0, COLUMNS_IN_ALL - 1);
  }

  private static boolean isIndex(int index) {
    return isWithin(index, 0, INDEXES - 1);
  }

  private static boolean isSign(int sign) {
    return isWithin(sign, LESS, UNEQUAL);
  }

  private static boolean isTruth(int truth) {
    return isWithin(truth, FALSE, DOUBT);
  }

  private static boolean isDigit(int v) {
    return isWithin(v, 0, 9);
  }

  private static boolean isValue(int v) {
    return isWithin(v, 1, 9);
  }

  /** Where a key of an index stands in index 0, by which all truths are kept. */
  private static int placeOf(int index, int key) {
    int at = COLUMNS_IN_ALL * index;
    return key / 100 * WEIGHT[COLUMN_AT[at]]
        + key / 10 % DIGITS * WEIGHT[COLUMN_AT[at + 1]]
        + key % DIGITS * WEIGHT[COLUMN_AT[at + 2]];
  }

  /** Whether what is had compares so: DOUBT, if either is MISSING. */
  private static int compared(int had, int sign, int with) {
    if (had == MISSING || with == MISSING) {
      return DOUBT;
    }
    boolean so;
    switch (sign) {
      case LESS:
        so = had < with;
        break;
      case EQUAL:
        so = had == with;
        break;
      case GREATER:
        so = had > with;
        break;
      default:
        so = had != with;
        break;
    }
    return so ? TRUE : FALSE;
  }

  /** The lines of the table, and what else the draws and the costs of a plan go by. */
  private static final class Lines {
    static final int MOST = 60;

    private final int[] places;
    int count;
    int price;
    int seed;

    Lines() {
      places = new int[MOST * COLUMNS_IN_ALL];
      count = 0;
      price = 4;
      seed = 1;
    }

    void copyFrom(Lines other) {
      System.arraycopy(other.places, 0, places, 0, places.length);
      count = other.count;
      price = other.price;
      seed = other.seed;
    }

    boolean has(int number) {
      return isWithin(number, 0, count - 1);
    }

    int valueOf(int number, int column) {
      return places[number * COLUMNS_IN_ALL + column];
    }

    void put(int number, int column, int v) {
      places[number * COLUMNS_IN_ALL + column] = v;
    }

    private void putAll(int number, int a, int b, int c) {
      put(number, 0, a);
      put(number, 1, b);
      put(number, 2, c);
    }

    void add(int a, int b, int c) {
      if (count < MOST) {
        putAll(count, a, b, c);
        count++;
      }
    }

    void remove(int number) {
      if (has(number)) {
        int from = (number + 1) * COLUMNS_IN_ALL;
        int moved = count * COLUMNS_IN_ALL - from;
        System.arraycopy(places, from, places, from - COLUMNS_IN_ALL, moved);
        count--;
      }
    }

    int keyIn(int number, int index) {
      int at = COLUMNS_IN_ALL * index;
      return 100 * valueOf(number, COLUMN_AT[at])
          + 10 * valueOf(number, COLUMN_AT[at + 1])
          + valueOf(number, COLUMN_AT[at + 2]);
    }

    int truthOf(Condition it, int number) {
      return it.truthAt(keyIn(number, 0));
    }

    int countOf(Condition it, int wanted) {
      int those = 0;
      for (int number = 0; number < count; number++) {
        if (truthOf(it, number) == wanted) {
          those++;
        }
      }
      return those;
    }

    int countValue(int column, int v) {
      int those = 0;
      for (int number = 0; number < count; number++) {
        if (valueOf(number, column) == v) {
          those++;
        }
      }
      return those;
    }

    void liveDay() {
      int a = draw(DIGITS);
      int b = draw(DIGITS);
      int c = draw(DIGITS);
      if (count < MOST) {
        add(a, b, c);
      } else {
        putAll(draw(MOST), a, b, c);
      }
      if (draw(8) == 0) {
        remove(draw(count));
      }
    }

    private int draw(int below) {
      seed = seed * 1103515245 + 12345;
      return below > 0 ? (seed >>> 16) % below : 0;
    }
  }

  /** One condition, with what it is for every key of index 0. */
  private static final class Condition {
    /** An int holds the truths of so many places, two bits each: all must live in a small room. */
    private static final int PLACES_IN_ONE = 16;
    private static final int TRUTH_BITS = 3;

    int kind;
    int sign;
    int x;
    int y;
    int remainder;
    int columnBits;
    int deep;
    int parts;
    private final int[] truths;
    private int size;
    private final int[] columns;
    private final int[] wanted;

    Condition() {
      truths = new int[(KEYS + PLACES_IN_ONE - 1) / PLACES_IN_ONE];
      columns = new int[COLUMNS_IN_ALL];
      wanted = new int[COLUMNS_IN_ALL];
    }

    void begin(int newKind, int newSign, int newX, int newY) {
      kind = newKind;
      sign = newSign;
      x = newX;
      y = newY;
      remainder = 0;
      columnBits = 0;
      size = 0;
    }

    /** A column more, with what the kind wants of it: a value, some values as bits, a modulus. */
    void addColumn(int column, int what) {
      if (size < COLUMNS_IN_ALL) {
        columns[size] = column;
        wanted[size] = what;
        columnBits |= 1 << column;
        size++;
      }
    }

    int columnCount() {
      return size;
    }

    void want(int i, int what) {
      if (isWithin(i, 0, size - 1)) {
        wanted[i] = what;
      }
    }

    boolean names(int column) {
      return (columnBits & 1 << column) != 0;
    }

    void copyFrom(Condition other) {
      begin(other.kind, other.sign, other.x, other.y);
      for (int i = 0; i < other.size; i++) {
        addColumn(other.columns[i], other.wanted[i]);
      }
      remainder = other.remainder;
      columnBits = other.columnBits;
      deep = other.deep;
      parts = other.parts;
      System.arraycopy(other.truths, 0, truths, 0, truths.length);
    }

    /** What it is for a key of index 0. */
    int truthAt(int place) {
      return truths[place / PLACES_IN_ONE] >>> shiftOf(place) & TRUTH_BITS;
    }

    private void keepTruth(int place, int told) {
      int others = truths[place / PLACES_IN_ONE] & ~(TRUTH_BITS << shiftOf(place));
      truths[place / PLACES_IN_ONE] = others | told << shiftOf(place);
    }

    private static int shiftOf(int place) {
      return 2 * (place % PLACES_IN_ONE);
    }

    /** Works out a condition that is over none. */
    void settleLeaf(int number) {
      deep = 0;
      parts = 1 << number;
      for (int place = 0; place < KEYS; place++) {
        keepTruth(place, leafTruth(place));
      }
    }

    /** Works out a condition over others, which are worked out; a turn looks at the first alone. */
    void settleOver(int number, Condition first, Condition second) {
      deep = 1 + Math.max(first.deep, second.deep);
      columnBits = first.columnBits | second.columnBits;
      parts = kind == AND ? first.parts | second.parts : 1 << number;
      for (int place = 0; place < KEYS; place++) {
        keepTruth(place, joinedTruth(first.truthAt(place), second.truthAt(place)));
      }
    }

    private int leafTruth(int place) {
      int had = digitOf(place, 0);
      switch (kind) {
        case TEST:
          return compared(had, sign, wanted[0]);
        case AMONG:
          return orDoubt(had, (wanted[0] & 1 << had) != 0);
        case GONE:
          return had == MISSING ? TRUE : FALSE;
        case COLUMNS:
          return compared(had, sign, digitOf(place, 1));
        case REST:
          return orDoubt(had, wanted[0] > 0 && had % wanted[0] == remainder);
        default:
          return sign == LESS || sign == GREATER ? orderTruth(place) : equalTruth(place);
      }
    }

    private int digitOf(int place, int i) {
      return place / WEIGHT[columns[i]] % DIGITS;
    }

    private static int orDoubt(int had, boolean so) {
      if (had == MISSING) {
        return DOUBT;
      }
      return so ? TRUE : FALSE;
    }

    /** By less and greater: the first column that isn't equal decides. */
    private int orderTruth(int place) {
      for (int i = 0; i < size; i++) {
        int had = digitOf(place, i);
        int so = compared(had, sign, wanted[i]);
        if (so != FALSE) {
          return so;
        }
        if (had != wanted[i]) {
          return FALSE;
        }
      }
      return FALSE;
    }

    /** By equal and its opposite: one that isn't equal decides, even behind one that is MISSING. */
    private int equalTruth(int place) {
      int all = TRUE;
      for (int i = 0; i < size; i++) {
        int had = digitOf(place, i);
        if (had != MISSING && had != wanted[i]) {
          all = FALSE;
        } else if (had == MISSING && all == TRUE) {
          all = DOUBT;
        }
      }
      return sign == EQUAL ? all : opposite(all);
    }

    private int joinedTruth(int first, int second) {
      switch (kind) {
        case AND:
          if (first == FALSE || second == FALSE) {
            return FALSE;
          }
          return first == DOUBT || second == DOUBT ? DOUBT : TRUE;
        case OR:
          if (first == TRUE || second == TRUE) {
            return TRUE;
          }
          return first == DOUBT || second == DOUBT ? DOUBT : FALSE;
        case NOT:
          return opposite(first);
        default:
          return first == TRUE ? TRUE : FALSE;
      }
    }

    private static int opposite(int told) {
      if (told == DOUBT) {
        return DOUBT;
      }
      return told == TRUE ? FALSE : TRUE;
    }

    /** Whether it may be taken for one of a sort, as a shelf is asked. */
    boolean isOfSort(int as) {
      switch (as) {
        case 0:
          return true;
        case 1:
          return kind <= SEVERAL;
        case 2:
          return kind <= REST && kind != COLUMNS;
        case 3:
          return kind == AND || kind == OR;
        case 4:
          return kind == NOT || kind == SURE;
        case 5:
          return kind == AND;
        default:
          return kind == SEVERAL;
      }
    }

    /** What it says, taken for one of a sort that it is of. */
    int toldAs(int as) {
      switch (as) {
        case 0:
          return countKeys(TRUE);
        case 1:
          return columns[0];
        case 2:
          return valuesIn(columns[0]);
        case 3:
          return 100 * x + y;
        case 4:
          return x;
        case 5:
          return Integer.bitCount(parts);
        default:
          return size;
      }
    }

    int countKeys(int told) {
      int those = 0;
      for (int place = 0; place < KEYS; place++) {
        if (truthAt(place) == told) {
          those++;
        }
      }
      return those;
    }

    int valuesIn(int column) {
      int bits = 0;
      for (int place = 0; place < KEYS; place++) {
        if (truthAt(place) == TRUE) {
          bits |= 1 << place / WEIGHT[column] % DIGITS;
        }
      }
      return bits;
    }

    /** The least key of index 0 for which another is not the same; NONE. */
    int firstUnlike(Condition other) {
      for (int place = 0; place < KEYS; place++) {
        if (truthAt(place) != other.truthAt(place)) {
          return place;
        }
      }
      return NONE;
    }
  }

  /**
   * The conditions by their numbers. New ones are drafts behind those that stand, until all of them
   * are taken or forgotten: a tape with a fault at its end must leave nothing behind.
   */
  private static final class Conditions {
    static final int MOST = 24;

    private final Condition[] list;
    int count;
    private int drafts;

    Conditions() {
      // One more than there may be: drafts without room are written into it, one over the other.
      list = new Condition[MOST + 1];
      for (int i = 0; i <= MOST; i++) {
        list[i] = new Condition();
      }
      count = 0;
      drafts = 0;
    }

    void copyFrom(Conditions other) {
      for (int i = 0; i < other.count; i++) {
        list[i].copyFrom(other.list[i]);
      }
      count = other.count;
    }

    boolean has(int number) {
      return isWithin(number, 0, count - 1);
    }

    Condition at(int number) {
      return list[isWithin(number, 0, MOST) ? number : MOST];
    }

    Condition draft(int kind, int sign) {
      Condition it = at(count + drafts);
      it.begin(kind, sign, NONE, NONE);
      drafts++;
      return it;
    }

    void draftOver(int kind, int x, int y) {
      Condition it = at(count + drafts);
      it.begin(kind, NONE, x, y);
      drafts++;
    }

    int lastDraft() {
      return count + drafts - 1;
    }

    boolean fitsDrafts() {
      return count + drafts <= MOST;
    }

    void forgetDrafts() {
      drafts = 0;
    }

    void settleDrafts() {
      int end = Math.min(count + drafts, MOST);
      for (int number = count; number < end; number++) {
        Condition it = list[number];
        if (it.kind <= SEVERAL) {
          it.settleLeaf(number);
        } else {
          it.settleOver(number, at(it.x), at(it.y == NONE ? it.x : it.y));
        }
      }
      count = end;
      drafts = 0;
    }
  }

  /** The shelves: each holds nothing, a row with its elements as longs, or a condition's number. */
  private static final class Shelves {
    static final int ROW_SIZE = 40;
    static final int BOOLEANS = 4;
    private static final int MOST = 8;
    private static final int BYTES = 0;
    private static final int SHORTS = 1;
    private static final int INTS = 2;
    private static final int LONGS = 3;
    private static final int CONDITION = 10;

    private final int[] held;
    private final int[] sizes;
    private final long[] elements;

    Shelves() {
      held = new int[MOST];
      sizes = new int[MOST];
      elements = new long[MOST * ROW_SIZE];
      for (int s = 0; s < MOST; s++) {
        held[s] = NONE;
      }
    }

    static boolean isShelf(int s) {
      return isWithin(s, 0, MOST - 1);
    }

    int heldBy(int s) {
      return held[s];
    }

    void empty(int s) {
      held[s] = NONE;
    }

    void holdCondition(int s, int number) {
      held[s] = CONDITION + number;
    }

    /** The number of the condition that a shelf holds; NONE. */
    int conditionIn(int s) {
      return held[s] >= CONDITION ? held[s] - CONDITION : NONE;
    }

    void layRow(int s, int sort, int n) {
      held[s] = sort;
      sizes[s] = n;
      for (int i = 0; i < n; i++) {
        elements[s * ROW_SIZE + i] = 0;
      }
    }

    int whyNoRow(int s) {
      if (held[s] >= CONDITION) {
        return OTHER;
      }
      return held[s] == NONE ? NOTHING : FINE;
    }

    /** Why a shelf can't tell so many elements. */
    int whyNoRowOf(int s, int n) {
      int why = whyNoRow(s);
      if (why == FINE && sizes[s] < n) {
        return BAD;
      }
      return why;
    }

    /** What a shelf holds wrongly comes ahead of what the other one lacks. */
    int whyNoTwoRows(int p, int q) {
      int one = whyNoRow(p);
      int two = whyNoRow(q);
      if (one == OTHER || two == OTHER) {
        return OTHER;
      }
      if (one == NOTHING || two == NOTHING) {
        return NOTHING;
      }
      return held[p] == held[q] ? FINE : OTHER;
    }

    boolean hasElement(int s, int i) {
      return isWithin(i, 0, sizes[s] - 1);
    }

    boolean hasPart(int s, int from, int n) {
      return isWithin(n, 0, sizes[s]) && isWithin(from, 0, sizes[s] - n);
    }

    long elementAt(int s, int i) {
      return elements[s * ROW_SIZE + i];
    }

    void put(int s, int i, long v) {
      elements[s * ROW_SIZE + i] = kept(held[s], v);
    }

    void carry(int p, int q, int from, int to, int n) {
      System.arraycopy(elements, p * ROW_SIZE + from, elements, q * ROW_SIZE + to, n);
    }

    private static long kept(int sort, long v) {
      switch (sort) {
        case BYTES:
          return (byte) v;
        case SHORTS:
          return (short) v;
        case INTS:
          return (int) v;
        case LONGS:
          return v;
        default:
          return v != 0 ? 1 : 0;
      }
    }

    void forgetConditionsFrom(int number) {
      for (int s = 0; s < MOST; s++) {
        if (conditionIn(s) >= number) {
          held[s] = NONE;
        }
      }
    }

    int countHolding() {
      int those = 0;
      for (int s = 0; s < MOST; s++) {
        if (held[s] != NONE) {
          those++;
        }
      }
      return those;
    }
  }

  /** The tape's bytes, and the place up to which they are read. */
  private static final class Tape {
    static final int MOST = 250;
    private static final int BLANK = 32;

    private final int[] bytes;
    int size;
    int place;

    Tape() {
      bytes = new int[MOST];
      size = 0;
      place = 0;
    }

    void append(int letter) {
      if (size < MOST) {
        bytes[size] = letter;
        size++;
      }
    }

    void wipeAll() {
      size = 0;
    }

    void rewind() {
      place = 0;
    }

    /**
     * The next byte that is no blank; NONE: there is none. The place is then that byte's, or the
     * size: just where the fault is, if this can't stand there.
     */
    int ahead() {
      while (place < size && bytes[place] == BLANK) {
        place++;
      }
      return place < size ? bytes[place] : NONE;
    }

    void take() {
      if (place < size) {
        place++;
      }
    }

    /** The column, sign or digit (from the least one on) that is next; NONE: it is none. */
    int columnAhead() {
      int letter = ahead();
      return isWithin(letter, 'a', 'c') ? letter - 'a' : NONE;
    }

    int signAhead() {
      switch (ahead()) {
        case '<':
          return LESS;
        case '=':
          return EQUAL;
        case '>':
          return GREATER;
        case '~':
          return UNEQUAL;
        default:
          return NONE;
      }
    }

    int digitAhead(int least, int most) {
      int letter = ahead();
      return isWithin(letter, '0' + least, '0' + most) ? letter - '0' : NONE;
    }
  }

  /**
   * Reads tables and conditions from the tape. It keeps what is open in rows of its own instead of
   * calling itself: a tape may open more brackets than calls may stand open.
   */
  private static final class Reader {
    private final int[] values;
    private int valueCount;
    private final int[] open;
    private int openCount;
    private final int[] whole;
    private int wholeCount;

    Reader() {
      values = new int[Tape.MOST];
      open = new int[Tape.MOST];
      whole = new int[Tape.MOST];
    }

    /** Whether the tape is a table; if not, the tape's place is the fault. */
    boolean readTable(Tape tape) {
      tape.rewind();
      valueCount = 0;
      for (int read = 0; read <= Tape.MOST; read++) {
        if (!readLine(tape)) {
          return false;
        }
        int next = tape.ahead();
        if (next == NONE) {
          return true;
        }
        if (next != ';') {
          return false;
        }
        tape.take();
      }
      return false;
    }

    private boolean readLine(Tape tape) {
      for (int column = 0; column < COLUMNS_IN_ALL; column++) {
        int v = tape.ahead() == '.' ? MISSING : tape.digitAhead(1, 9);
        if (v == NONE || valueCount >= values.length) {
          return false;
        }
        values[valueCount] = v;
        valueCount++;
        tape.take();
      }
      return true;
    }

    int lineCount() {
      return valueCount / COLUMNS_IN_ALL;
    }

    int valueRead(int i, int column) {
      int at = i * COLUMNS_IN_ALL + column;
      return isWithin(at, 0, valueCount - 1) ? values[at] : MISSING;
    }

    /** Whether the tape is a condition, drafted then; if not, the tape's place is the fault. */
    boolean readCondition(Tape tape, Conditions into) {
      tape.rewind();
      openCount = 0;
      wholeCount = 0;
      boolean wantsTurn = true;
      for (int read = 0; read <= Tape.MOST; read++) {
        int next = tape.ahead();
        if (next == NONE) {
          return !wantsTurn && isClosed(into);
        }
        if (wantsTurn && isTurnSign(next)) {
          pushOpen(next);
          tape.take();
        } else if (wantsTurn) {
          if (!readLeaf(tape, into.draft(TEST, NONE))) {
            return false;
          }
          turnIsWhole(into, into.lastDraft());
          wantsTurn = false;
        } else {
          if (!readBehindTurn(tape, into, next)) {
            return false;
          }
          wantsTurn = next != ')';
        }
      }
      return false;
    }

    private static boolean isTurnSign(int letter) {
      return letter == '-' || letter == '+' || letter == '(';
    }

    private boolean isClosed(Conditions into) {
      closeOr(into);
      return openCount == 0;
    }

    /** Behind a turn that is whole only & | ) may stand. */
    private boolean readBehindTurn(Tape tape, Conditions into, int next) {
      if (next == '&') {
        pushOpen(next);
      } else if (next == '|') {
        closeOr(into);
        pushOpen(next);
      } else if (next == ')') {
        closeOr(into);
        if (topOpen() != '(') {
          return false;
        }
        popOpen();
        turnIsWhole(into, popWhole());
      } else {
        return false;
      }
      tape.take();
      return true;
    }

    /** What waited for a turn becomes whole with it: the signs ahead of it, then an AND. */
    private void turnIsWhole(Conditions into, int number) {
      int turned = number;
      while (openCount > 0 && (topOpen() == '-' || topOpen() == '+')) {
        into.draftOver(topOpen() == '-' ? NOT : SURE, turned, NONE);
        turned = into.lastDraft();
        openCount--;
      }
      if (topOpen() == '&') {
        popOpen();
        into.draftOver(AND, popWhole(), turned);
        turned = into.lastDraft();
      }
      pushWhole(turned);
    }

    /** An OR is whole only when nothing can be joined to its last part by & any more. */
    private void closeOr(Conditions into) {
      if (topOpen() == '|' && wholeCount >= 2) {
        popOpen();
        int second = popWhole();
        int first = popWhole();
        into.draftOver(OR, first, second);
        pushWhole(into.lastDraft());
      }
    }

    private void pushOpen(int letter) {
      if (openCount < open.length) {
        open[openCount] = letter;
        openCount++;
      }
    }

    private int topOpen() {
      return openCount > 0 ? open[openCount - 1] : NONE;
    }

    private void popOpen() {
      if (openCount > 0) {
        openCount--;
      }
    }

    private void pushWhole(int number) {
      if (wholeCount < whole.length) {
        whole[wholeCount] = number;
        wholeCount++;
      }
    }

    private int popWhole() {
      if (wholeCount <= 0) {
        return NONE;
      }
      wholeCount--;
      return whole[wholeCount];
    }

    private static boolean readLeaf(Tape tape, Condition it) {
      int column = tape.columnAhead();
      if (column == NONE) {
        return false;
      }
      tape.take();
      it.addColumn(column, MISSING);
      if (tape.signAhead() != NONE) {
        return readCompared(tape, it);
      }
      switch (tape.ahead()) {
        case '[':
          return readAmong(tape, it);
        case '?':
          it.kind = GONE;
          tape.take();
          return true;
        case '%':
          return readRest(tape, it);
        default:
          return readSeveral(tape, it);
      }
    }

    /** A sign, and a digit (a TEST) or another column (COLUMNS). */
    private static boolean readCompared(Tape tape, Condition it) {
      it.sign = tape.signAhead();
      tape.take();
      int v = tape.digitAhead(1, 9);
      int other = tape.columnAhead();
      if (v != NONE) {
        it.kind = TEST;
        it.want(0, v);
      } else if (other != NONE && !it.names(other)) {
        it.kind = COLUMNS;
        it.addColumn(other, MISSING);
      } else {
        return false;
      }
      tape.take();
      return true;
    }

    private static boolean readAmong(Tape tape, Condition it) {
      it.kind = AMONG;
      tape.take();
      int bits = 0;
      int v = tape.digitAhead(1, 9);
      for (int read = 0; read < Tape.MOST && v != NONE; read++) {
        bits |= 1 << v;
        tape.take();
        v = tape.digitAhead(1, 9);
      }
      if (bits == 0 || tape.ahead() != ']') {
        return false;
      }
      it.want(0, bits);
      tape.take();
      return true;
    }

    private static boolean readRest(Tape tape, Condition it) {
      it.kind = REST;
      tape.take();
      int m = tape.digitAhead(2, 9);
      if (m == NONE) {
        return false;
      }
      tape.take();
      int r = tape.digitAhead(0, m - 1);
      if (r == NONE) {
        return false;
      }
      tape.take();
      it.want(0, m);
      it.remainder = r;
      return true;
    }

    private static boolean readSeveral(Tape tape, Condition it) {
      it.kind = SEVERAL;
      int next = tape.columnAhead();
      for (int read = 1; read < COLUMNS_IN_ALL && next != NONE; read++) {
        if (it.names(next)) {
          return false;
        }
        it.addColumn(next, MISSING);
        tape.take();
        next = tape.columnAhead();
      }
      it.sign = tape.signAhead();
      if (it.columnCount() < 2 || it.sign == NONE) {
        return false;
      }
      tape.take();
      for (int i = 0; i < it.columnCount(); i++) {
        int v = tape.digitAhead(1, 9);
        if (v == NONE) {
          return false;
        }
        it.want(i, v);
        tape.take();
      }
      return true;
    }
  }

  /**
   * The runs of a condition in an index, and the plans that come of them. A gap has the number of
   * the run ahead of it. Joining two spans changes no other gap, so the gaps of all plans are
   * joined in one order: by width, of several the first.
   */
  private static final class Spans {
    private static final int MOST = KEYS / 2;

    private final int[] first;
    private final int[] last;
    private final int[] begun;
    private final int[] gapOrder;
    private final int[] firstOfWidth;
    private final int[] nextOfWidth;
    private final boolean[] joined;
    private final int[] linesInGap;
    int count;
    int bestSize;
    int bestCost;

    Spans() {
      first = new int[MOST];
      last = new int[MOST];
      begun = new int[KEYS];
      gapOrder = new int[MOST];
      firstOfWidth = new int[KEYS];
      nextOfWidth = new int[MOST];
      joined = new boolean[MOST];
      linesInGap = new int[MOST];
    }

    /** Finds the runs of a condition, and by how many of them each key has begun. */
    void layOut(Condition it, int index) {
      count = 0;
      boolean inside = false;
      for (int key = 0; key < KEYS; key++) {
        boolean so = it.truthAt(placeOf(index, key)) == TRUE;
        if (so && !inside && count < MOST) {
          first[count] = key;
          count++;
        }
        if (so && count > 0) {
          last[count - 1] = key;
        }
        begun[key] = count;
        inside = so;
      }
    }

    int runTold(int i) {
      return 1000 * first[i] + last[i];
    }

    int planSize(int n) {
      return Math.min(count, n);
    }

    private int widthOf(int gap) {
      return first[gap + 1] - last[gap] - 1;
    }

    /** The gaps by width; those of one width stay as they are. */
    private void orderGaps() {
      for (int width = 0; width < KEYS; width++) {
        firstOfWidth[width] = NONE;
      }
      for (int gap = count - 2; gap >= 0; gap--) {
        int width = widthOf(gap);
        nextOfWidth[gap] = firstOfWidth[width];
        firstOfWidth[width] = gap;
      }
      int ordered = 0;
      for (int width = 0; width < KEYS; width++) {
        int gap = firstOfWidth[width];
        while (gap != NONE && ordered < count - 1) {
          gapOrder[ordered] = gap;
          ordered++;
          gap = nextOfWidth[gap];
        }
      }
    }

    /** The plan by n. */
    void joinDownTo(int n) {
      orderGaps();
      for (int gap = 0; gap < count - 1; gap++) {
        joined[gap] = false;
      }
      for (int i = 0; i < count - Math.max(n, 1); i++) {
        joined[gapOrder[i]] = true;
      }
    }

    /** The i-th span of the plan. */
    int spanTold(int i) {
      int span = 0;
      int start = 0;
      for (int run = 0; run < count; run++) {
        if (run == count - 1 || !joined[run]) {
          if (span == i) {
            return 1000 * first[start] + last[run];
          }
          span++;
          start = run + 1;
        }
      }
      return NONE;
    }

    private boolean isInRun(int key) {
      return begun[key] > 0 && key <= last[begun[key] - 1];
    }

    /** The gap in which a key is that is in no run; NONE: it is beyond them all. */
    private int gapAt(int key) {
      int gap = begun[key] - 1;
      return isWithin(gap, 0, count - 2) ? gap : NONE;
    }

    boolean planHas(int key) {
      int gap = gapAt(key);
      return isInRun(key) || gap != NONE && joined[gap];
    }

    int countKeysBetween() {
      int those = 0;
      for (int gap = 0; gap < count - 1; gap++) {
        if (joined[gap]) {
          those += widthOf(gap);
        }
      }
      return those;
    }

    int countRead(Lines lines, int index) {
      int those = 0;
      for (int line = 0; line < lines.count; line++) {
        if (planHas(lines.keyIn(line, index))) {
          those++;
        }
      }
      return those;
    }

    /** Goes from the runs to one span by joining gap after gap: each reads its lines, too. */
    void findBest(Lines lines, int index) {
      orderGaps();
      int cost = lines.price * count + countLinesByGap(lines, index);
      bestSize = 1;
      bestCost = cost;
      boolean any = false;
      for (int n = count; n >= 1; n--) {
        if (n <= MOST_SPANS && (!any || cost <= bestCost)) {
          any = true;
          bestSize = n;
          bestCost = cost;
        }
        if (n > 1) {
          cost += linesInGap[gapOrder[count - n]] - lines.price;
        }
      }
    }

    /** How many lines are in runs; those in gaps are counted gap by gap. */
    private int countLinesByGap(Lines lines, int index) {
      for (int gap = 0; gap < count - 1; gap++) {
        linesInGap[gap] = 0;
      }
      int inRuns = 0;
      for (int line = 0; line < lines.count; line++) {
        int key = lines.keyIn(line, index);
        int gap = gapAt(key);
        if (isInRun(key)) {
          inRuns++;
        } else if (gap != NONE) {
          linesInGap[gap]++;
        }
      }
      return inRuns;
    }
  }

  /** The lines for which a condition is true, in an order, as codes that sort as they do. */
  private static final class Ranking {
    private static final int LINE_ROOM = 100;

    private final int[] codes;
    int count;

    Ranking() {
      codes = new int[Lines.MOST];
    }

    /** Less for what comes ahead: the key without its first k digits, the key, the number. */
    static int codeOf(int key, int k, int line) {
      int tail = k == 0 ? key : k == 1 ? key % 100 : key % 10;
      return (tail * KEYS + key) * LINE_ROOM + line;
    }

    void rank(Lines lines, Condition it, int index, int k) {
      count = 0;
      for (int line = 0; line < lines.count; line++) {
        if (lines.truthOf(it, line) == TRUE) {
          insert(codeOf(lines.keyIn(line, index), k, line));
        }
      }
    }

    private void insert(int code) {
      if (count >= codes.length) {
        return;
      }
      int at = count;
      while (at > 0 && codes[at - 1] > code) {
        codes[at] = codes[at - 1];
        at--;
      }
      codes[at] = code;
      count++;
    }

    int lineAt(int i) {
      return codes[i] % LINE_ROOM;
    }

    /** The first line behind a code; NONE. */
    int firstBehind(int code) {
      for (int i = 0; i < count; i++) {
        if (codes[i] > code) {
          return lineAt(i);
        }
      }
      return NONE;
    }
  }
}
