import java.lang.reflect.InvocationTargetException;
import java.lang.reflect.Method;
import java.util.ArrayList;
import java.util.HashMap;
import java.util.List;
import java.util.Map;
import java.util.Random;

/**
 * Runs of 512 random calls, each answer held against the Model. The runs are the same every time; a
 * number as argument makes other ones: java RandomRunsTest first many.
 */
public final class RandomRunsTest {
  private static final int CALLS = 512;

  /** Every method, how often it is called beside others, and what each argument stands for. */
  private static final String[] CALL = {
    "row 6 shelf sort size", "set 14 shelf element long", "copy 6 shelf shelf place place size",
    "element 4 shelf element", "holds 2 shelf", "show 5 shelf condOrNone", "says 8 shelf as",
    "line 6 digit digit digit", "alter 3 line column digit", "strike 2 line", "price 2 price",
    "feed 1 letter", "wipe 1", "table 1", "cond 1", "test 3 column sign value",
    "among 3 column values", "gone 2 column", "columns 2 column sign column", "rest 2 column m r",
    "several 4 shelf severalSize sign", "pair 5 pairKind cond cond", "turn 4 turnKind cond",
    "drop 2", "condOf 6 cond condWhat", "lineOf 2 line column", "keyOf 2 line index",
    "truth 3 cond index key", "keys 3 cond truth", "lines 3 cond truth", "values 3 cond column",
    "runs 3 cond index", "run 4 cond index few", "plan 6 cond index n fewOrNone",
    "of 8 cond index n ofWhat", "best 4 cond index two", "bestIndex 3 cond two",
    "seek 4 cond index key two", "leaders 4 cond index k two", "found 4 cond index fewOrNone",
    "order 5 cond index orderK few", "behind 4 cond index line", "implies 3 cond cond",
    "alike 3 cond cond", "same 3 cond", "signs 4 column value shelf small",
    "judge 4 cond index shelf small", "many 2 column digit", "whatIf 3 cond line column digit",
    "days 2 days", "seed 1 any", "image 1", "back 1", "status 4 status",
    "TABLE 6", "CONDITION 8", "TELL_SEVERAL 4", "TELL_LINES 4", "TELL_FOUND 4"
  };

  private final Random random;
  private final Checks checks;
  private final SkippingKeys program = new SkippingKeys();
  private final Model model = new Model();
  private final String run;
  private final List<String> script = new ArrayList<>();
  private static final Map<String, Method> PROGRAM = new HashMap<>();
  private static final Map<String, Method> MODEL = new HashMap<>();
  private int calls;

  private RandomRunsTest(int seed, Checks checks) {
    this.random = new Random(seed);
    this.checks = checks;
    this.run = "run " + seed;
  }

  public static void main(String[] args) throws ReflectiveOperationException {
    int first = args.length > 0 ? Integer.parseInt(args[0]) : 1;
    int many = args.length > 1 ? Integer.parseInt(args[1]) : 300;
    collect(SkippingKeys.class, PROGRAM);
    collect(Model.class, MODEL);
    Checks checks = new Checks("RandomRunsTest");
    for (int seed = first; seed < first + many && !checks.anyWrong(); seed++) {
      new RandomRunsTest(seed, checks).go();
    }
    checks.end();
  }

  private static void collect(Class<?> type, Map<String, Method> into) {
    for (Method method : type.getDeclaredMethods()) {
      for (String call : CALL) {
        String[] words = call.split(" ");
        if (words[0].equals(method.getName()) && method.getParameterCount() == words.length - 2) {
          method.setAccessible(true);
          into.put(words[0], method);
        }
      }
    }
  }

  private void go() throws ReflectiveOperationException {
    int total = 0;
    for (String call : CALL) {
      total += Integer.parseInt(call.split(" ")[1]);
    }
    while (calls < CALLS && !checks.anyWrong()) {
      int drawn = random.nextInt(total);
      int i = 0;
      while (drawn >= Integer.parseInt(CALL[i].split(" ")[1])) {
        drawn -= Integer.parseInt(CALL[i].split(" ")[1]);
        i++;
      }
      play(CALL[i].split(" "));
    }
    for (int what = -2; what < 20 && !checks.anyWrong(); what++) {
      call("status", what);
    }
    if (checks.anyWrong()) {
      System.out.println(String.join("\n", script));
    }
  }

  private void play(String[] words) throws ReflectiveOperationException {
    switch (words[0]) {
      case "TABLE":
        feedAll(spoilt(someTable()));
        call("table");
        return;
      case "CONDITION":
        feedAll(spoilt(someCondition(random.nextInt(4))));
        call("cond");
        return;
      case "TELL_SEVERAL":
        tellSeveral();
        return;
      case "TELL_LINES":
        tellLines();
        return;
      case "TELL_FOUND":
        tellFound();
        return;
      default:
        break;
    }
    long[] args = new long[words.length - 2];
    for (int i = 0; i < args.length; i++) {
      args[i] = random.nextInt(40) == 0 ? some("any") : some(words[i + 2]);
    }
    call(words[0], args);
  }

  private long call(String name, long... args) throws ReflectiveOperationException {
    if (calls >= CALLS + 22) {
      return 0;
    }
    calls++;
    Object[] boxed = new Object[args.length];
    Class<?>[] types = PROGRAM.get(name).getParameterTypes();
    StringBuilder told = new StringBuilder(name).append('(');
    for (int i = 0; i < args.length; i++) {
      boxed[i] = types[i] == long.class ? (Object) args[i] : (Object) (int) args[i];
      told.append(i == 0 ? "" : ", ").append(boxed[i]);
    }
    told.append(')');
    try {
      long want = ((Number) MODEL.get(name).invoke(model, boxed)).longValue();
      script.add(told + " = " + want);
      long got = ((Number) PROGRAM.get(name).invoke(program, boxed)).longValue();
      checks.due(run + ", call " + calls + ", " + told, got, want);
      return want;
    } catch (InvocationTargetException thrown) {
      checks.same(run + ", call " + calls + ", " + told, "" + thrown.getCause(), "no exception");
      thrown.getCause().printStackTrace(System.out);
      return 0;
    }
  }

  // ---- arguments ----

  private long within(int least, int most) {
    if (random.nextInt(25) == 0) {
      return random.nextBoolean() ? least - 1 : most + 1;
    }
    return least + random.nextInt(most - least + 1);
  }

  private long some(String role) {
    int conds = Math.max(model.status(1), 1);
    int lines = Math.max(model.status(0), 1);
    switch (role) {
      case "shelf":
        return random.nextInt(3) > 0 ? random.nextInt(4) : within(0, 7);
      case "sort":
        return within(0, 4);
      case "size":
        return random.nextBoolean() ? random.nextInt(10) : within(0, 40);
      case "place":
      case "element":
      case "small":
        return random.nextInt(3) > 0 ? random.nextInt(8) : within(0, 40);
      case "long":
        return someLong();
      case "condOrNone":
      case "cond":
        return within(0, conds - 1);
      case "as":
      case "condWhat":
        return within(0, 6);
      case "digit":
        return within(0, 9);
      case "value":
        return within(1, 9);
      case "line":
        return within(0, lines - 1);
      case "column":
      case "orderK":
      case "truth":
        return within(0, 2);
      case "price":
        return within(0, 20);
      case "letter":
        return within(0, 255);
      case "sign":
        return within(0, 3);
      case "values":
        return random.nextInt(20) == 0 ? random.nextInt(4096) : random.nextInt(512) * 2;
      case "m":
        return within(2, 9);
      case "r":
        return random.nextInt(4);
      case "severalSize":
        return within(2, 3);
      case "pairKind":
        return within(6, 7);
      case "turnKind":
        return within(8, 9);
      case "index":
        return within(0, 5);
      case "key":
        return within(0, 999);
      case "few":
        return within(0, 12);
      case "fewOrNone":
        return random.nextInt(3) == 0 ? -1 : within(0, 12);
      case "n":
        return random.nextBoolean() ? within(1, 6) : within(1, 40);
      case "ofWhat":
        return within(0, 4);
      case "two":
        return within(0, 1);
      case "k":
        return within(1, 2);
      case "days":
        return random.nextBoolean() ? within(1, 60) : within(1, 4);
      case "status":
        return within(-1, 18);
      default:
        return someInt();
    }
  }

  private int someInt() {
    int[] edges = {
      0, 1, -1, 2, 10, 60, 61, 100, 1000, 999, 24, 23, 25, 40, 41, Integer.MAX_VALUE,
      Integer.MIN_VALUE, Integer.MAX_VALUE - 1, Integer.MIN_VALUE + 1
    };
    return random.nextBoolean() ? edges[random.nextInt(edges.length)] : random.nextInt();
  }

  private long someLong() {
    switch (random.nextInt(5)) {
      case 0:
        return random.nextLong();
      case 1:
        return (1L << random.nextInt(64)) + random.nextInt(3) - 1;
      case 2:
        return (1L << 32) * random.nextInt(3) + random.nextInt(5);
      default:
        return random.nextInt(10);
    }
  }

  // ---- what takes several calls ----

  private void feedAll(String text) throws ReflectiveOperationException {
    for (int i = 0; i < text.length() && calls < CALLS; i++) {
      call("feed", text.charAt(i));
    }
  }

  private String blank() {
    return random.nextInt(12) == 0 ? " " : "";
  }

  private String someTable() {
    StringBuilder text = new StringBuilder();
    int many = 1 + random.nextInt(random.nextInt(12) == 0 ? 40 : 5);
    for (int i = 0; i < many * 3; i++) {
      text.append(i > 0 && i % 3 == 0 ? ";" : "").append(blank());
      text.append(".123456789".charAt(random.nextInt(10))).append(blank());
    }
    return text.toString();
  }

  private String spoilt(String text) {
    StringBuilder other = new StringBuilder(text);
    if (random.nextInt(5) == 0 && other.length() > 0) {
      int at = random.nextInt(other.length());
      String signs = "abc<=>~[]?%()&|-+0123456789;. d\u0000\u00e9@:`";
      switch (random.nextInt(3)) {
        case 0:
          other.setCharAt(at, signs.charAt(random.nextInt(signs.length())));
          break;
        case 1:
          other.setLength(at);
          break;
        default:
          other.insert(at, signs.charAt(random.nextInt(signs.length())));
          break;
      }
    }
    return other.toString();
  }

  private String someCondition(int deep) {
    if (deep == 0 || random.nextInt(4) == 0) {
      return blank() + someLeaf() + blank();
    }
    switch (random.nextInt(6)) {
      case 0:
        return "-" + blank() + someTurn(deep - 1);
      case 1:
        return "+" + blank() + someTurn(deep - 1);
      case 2:
        return "(" + someCondition(deep - 1) + ")";
      case 3:
        return someCondition(deep - 1) + "|" + someCondition(deep - 1);
      default:
        return someCondition(deep - 1) + "&" + someCondition(deep - 1);
    }
  }

  private String someTurn(int deep) {
    return random.nextBoolean() ? someLeaf() : "(" + someCondition(deep) + ")";
  }

  private String digits(int many) {
    StringBuilder text = new StringBuilder();
    for (int i = 0; i < many; i++) {
      text.append(blank()).append(1 + random.nextInt(9));
    }
    return text.toString();
  }

  private String someLeaf() {
    String[] orders = {"abc", "acb", "bac", "bca", "cab", "cba"};
    String columns = orders[random.nextInt(6)];
    String first = columns.substring(0, 1) + blank();
    String sign = "" + "<=>~".charAt(random.nextInt(4)) + blank();
    switch (random.nextInt(6)) {
      case 0:
        return first + sign + digits(1);
      case 1:
        return first + "[" + digits(1 + random.nextInt(5)) + blank() + "]";
      case 2:
        return first + "?";
      case 3:
        return first + sign + columns.charAt(1);
      case 4: {
        int m = 2 + random.nextInt(8);
        return first + "%" + m + blank() + random.nextInt(m);
      }
      default: {
        int many = 2 + random.nextInt(2);
        return columns.substring(0, many) + blank() + sign + digits(many);
      }
    }
  }

  private void tellSeveral() throws ReflectiveOperationException {
    int n = 2 + random.nextInt(2);
    int s = random.nextInt(3);
    call("row", s, random.nextInt(4), 2 * n + random.nextInt(3));
    int start = random.nextInt(3);
    for (int i = 0; i < n; i++) {
      long column = (start + i) % 3;
      long v = 1 + random.nextInt(9);
      call("set", s, 2 * i, random.nextInt(15) == 0 ? someLong() : column);
      call("set", s, 2 * i + 1, random.nextInt(15) == 0 ? someLong() : v);
    }
    call("several", s, n, random.nextInt(4));
  }

  private void tellLines() throws ReflectiveOperationException {
    int n = 1 + random.nextInt(3);
    int s = random.nextInt(3);
    call("row", s, random.nextInt(4), 2 * n + random.nextInt(3));
    for (int i = 0; i < n; i++) {
      call("set", s, 2 * i, random.nextInt(15) == 0 ? someLong() : some("line"));
      call("set", s, 2 * i + 1, random.nextInt(15) == 0 ? someLong() : random.nextInt(2));
    }
    call("signs", random.nextInt(3), 1 + random.nextInt(9), s, n);
  }

  private void tellFound() throws ReflectiveOperationException {
    int conds = model.status(1);
    if (conds == 0) {
      return;
    }
    int c = random.nextInt(conds);
    int index = random.nextInt(6);
    long found = call("found", c, index, -1);
    int n = (int) Math.min(found, 8) + random.nextInt(2);
    int s = random.nextInt(3);
    call("row", s, random.nextInt(4), n + random.nextInt(3));
    for (int i = 0; i < n && i < found; i++) {
      call("set", s, i, random.nextInt(15) == 0 ? someLong() : call("found", c, index, i));
    }
    call("judge", c, index, s, n);
  }
}
