import java.lang.reflect.InvocationTargetException;
import java.lang.reflect.Method;
import java.util.ArrayList;
import java.util.Arrays;
import java.util.HashMap;
import java.util.List;
import java.util.Map;

/**
 * Edge cases told as runs of calls. Each is a sentence of the document and the steps of one run on
 * a new object: a call in words ("row 0 2 40"), and behind it what is due, if that matters. A step
 * "60 gone 1" is that call 60 times, "tape a?" feeds the signs behind the blank, "tell 0 2 7 8"
 * lays a row in shelf 0 of sort 2 and sets its elements.
 *
 * <p>When the last call of a case is refused, the case also holds the object against one that was
 * never asked it: only the count of that refusal may differ.
 */
abstract class Edges {
  static final int NONE = -1;
  static final int BAD = -102;
  static final int OTHER = -103;
  static final int NOTHING = -104;
  static final int STUCK = -105;
  static final int FULL = -106;
  static final int MAX = Integer.MAX_VALUE;
  static final int MIN = Integer.MIN_VALUE;

  private static final int MOST_CALLS = 512;
  private static final int FIRST_COUNT = 12;
  private static final int LAST_COUNT = 16;

  /** What can be asked of an object without knowing what it holds: each list fits into one run. */
  private static final String[][] PROBES = probes();

  /** Something of each kind. SHELF 2 holds NOTHING; shelves 1 and 7 hold CONDITIONS 3 and 0. */
  static final String[] WORLD = {
    "line 1 2 3", "line 4 5 0", "gone 1", "image", "line 7 8 9", // kept: two lines, one condition
    "test 0 1 4", "among 2 6", "pair 6 0 1", "turn 8 1", "columns 0 0 1", "rest 2 3 0",
    "price 7", "seed 99", "tell 0 0 5 -6 7", "show 1 3", "tell 3 2 0 1 1 2 2 3",
    "tell 4 3 0 1 1 0 2 1", "row 5 4 40", "row 6 1 0", "show 7 0", "tape b?"
  };
  static final String[] NO_SCENE = {};
  static final String SIXTY_LINES = "60 line 1 2 3";
  static final String ALL_CONDITIONS = "24 gone 0";

  private final Checks checks;
  private final Map<String, Method> face = new HashMap<>();
  private final Map<String, List<List<Long>>> asked = new HashMap<>();

  Edges(String name) {
    checks = new Checks(name);
    for (Method method : SkippingKeys.class.getDeclaredMethods()) {
      face.put(method.getName(), method);
    }
  }

  /** An object, and how many calls it has had. */
  private static final class Play {
    private final SkippingKeys x = new SkippingKeys();
    private int calls;
  }

  /** One case. */
  void edge(String sentence, Object... told) {
    List<Object> steps = new ArrayList<>();
    flatten(told, steps);
    Play play = new Play();
    int lastCall = 0;
    long last = 0;
    boolean lastIsDue = false;
    for (int i = 0; i < steps.size(); i++) {
      String step = (String) steps.get(i);
      last = perform(play, step);
      lastCall = i;
      lastIsDue = i + 1 < steps.size() && steps.get(i + 1) instanceof Number;
      if (lastIsDue) {
        i++;
        checks.due(sentence + ": " + step, last, ((Number) steps.get(i)).longValue());
      } else {
        checks.same(sentence + ": " + step, isRefusal(step, last) ? "refused: " + last : "", "");
      }
    }
    checks.same(sentence + ": calls", play.calls <= MOST_CALLS ? "" : "" + play.calls, "");
    String step = (String) steps.get(lastCall);
    if (lastIsDue && isRefusal(step, last)) {
      changesNothing(sentence, steps.subList(0, lastCall), step, last);
    }
  }

  /** A call, its # standing for a number that may be anything from least to most, and no other. */
  void range(String sentence, Object scene, String call, int least, int most) {
    for (int v = least; v <= most; v++) {
      edge(sentence + " " + v, scene, call.replace("#", "" + v));
    }
    refused(sentence, scene, call, BAD, least - 1, most + 1, MIN, MAX);
  }

  /** A call that is refused with each of these in the place of its #. */
  void refused(String sentence, Object scene, String call, int number, int... values) {
    for (int v : values) {
      edge(sentence + " " + v, scene, call.replace("#", "" + v), number);
    }
  }

  void end() {
    checks.end();
  }

  private static void flatten(Object[] told, List<Object> into) {
    for (Object one : told) {
      if (one instanceof Object[]) {
        flatten((Object[]) one, into);
      } else {
        into.add(one);
      }
    }
  }

  /** These two answer any number: it tells nothing of a refusal. */
  private static boolean isRefusal(String step, long answer) {
    boolean any = step.startsWith("element ") || step.startsWith("seed ");
    return !any && (answer <= BAD && answer >= FULL || answer <= -200 && answer >= -450);
  }

  // ---- steps ----

  private long perform(Play play, String step) {
    String[] words = step.split(" ");
    if (Character.isDigit(step.charAt(0))) {
      long last = 0;
      String call = step.substring(words[0].length() + 1);
      for (int i = 0; i < Integer.parseInt(words[0]); i++) {
        last = perform(play, call);
      }
      return last;
    }
    if (words[0].equals("tape")) {
      long last = 0;
      for (char letter : step.substring(5).toCharArray()) {
        last = call(play, "feed", letter);
      }
      return last;
    }
    if (words[0].equals("tell")) {
      return tell(play, numbers(words));
    }
    return call(play, words[0], numbers(words));
  }

  private long tell(Play play, long[] told) {
    long last = call(play, "row", told[0], told[1], told.length - 2);
    for (int i = 2; i < told.length; i++) {
      last = call(play, "set", told[0], i - 2, told[i]);
    }
    return last;
  }

  private static long[] numbers(String[] words) {
    long[] numbers = new long[words.length - 1];
    for (int i = 0; i < numbers.length; i++) {
      numbers[i] = Long.parseLong(words[i + 1]);
    }
    return numbers;
  }

  private long call(Play play, String name, long... args) {
    play.calls++;
    Method method = face.get(name);
    Class<?>[] types = method.getParameterTypes();
    Object[] boxed = new Object[args.length];
    for (int i = 0; i < args.length; i++) {
      boxed[i] = types[i] == long.class ? (Object) args[i] : (Object) Math.toIntExact(args[i]);
    }
    try {
      return ((Number) method.invoke(play.x, boxed)).longValue();
    } catch (InvocationTargetException | IllegalAccessException thrown) {
      throw new IllegalStateException(name + Arrays.toString(args), thrown);
    }
  }

  // ---- what a refused call leaves as it was ----

  private void changesNothing(String sentence, List<Object> ahead, String call, long number) {
    // These two empty the tape in any case.
    boolean reads = call.equals("table") || call.equals("cond");
    String key = ahead + (reads ? " wipe" : "");
    if (!asked.containsKey(key)) {
      List<List<Long>> all = new ArrayList<>();
      for (String[] probe : PROBES) {
        all.add(answers(ahead, reads ? "wipe" : null, probe));
      }
      asked.put(key, all);
    }
    int counted = FIRST_COUNT + (int) (BAD - (number <= -200 ? BAD : number));
    for (int i = 0; i < PROBES.length; i++) {
      List<Long> without = new ArrayList<>(asked.get(key).get(i));
      List<Long> with = answers(ahead, call, PROBES[i]);
      for (int j = 0; j < PROBES[i].length; j++) {
        long due = without.get(j) + (PROBES[i][j].equals("status " + counted) ? 1 : 0);
        if (with.get(j) != due) {
          checks.due(sentence + ": " + call + " then " + PROBES[i][j], with.get(j), due);
        }
      }
    }
    checks.due(sentence + ": " + call + " was looked at", 1, 1);
  }

  private List<Long> answers(List<Object> ahead, String call, String[] probe) {
    Play play = new Play();
    for (Object step : ahead) {
      if (step instanceof String) {
        perform(play, (String) step);
      }
    }
    if (call != null) {
      perform(play, call);
    }
    List<Long> answers = new ArrayList<>();
    for (String step : probe) {
      answers.add(perform(play, step));
    }
    if (play.calls > MOST_CALLS) {
      checks.due("calls of a probe", play.calls, MOST_CALLS);
    }
    return answers;
  }

  private static String[][] probes() {
    List<String[]> all = new ArrayList<>();
    all.add(probe(s(count("status #", FIRST_COUNT, LAST_COUNT), count("status #", 0, 7),
        count("holds #", 0, 7), s("days 1", "status 6"))));
    all.add(probe(count("keyOf # 0", 0, 59)));
    for (int s = 0; s < 8; s += 2) {
      all.add(probe(s(count("element " + s + " #", 0, 39),
          count("element " + (s + 1) + " #", 0, 39),
          count("copy " + s + " " + s + " 0 0 #", 0, 40),
          count("copy " + (s + 1) + " " + (s + 1) + " 0 0 #", 0, 40))));
    }
    all.add(probe(s(count("condOf # 0", 0, 23), count("condOf # 1", 0, 23),
        count("condOf # 2", 0, 23), count("condOf # 4", 0, 23), count("condOf # 6", 0, 23))));
    all.add(probe(s(count("keys # 0", 0, 23), count("keys # 1", 0, 23), count("runs # 0", 0, 23),
        count("runs # 2", 0, 23), count("runs # 4", 0, 23))));
    all.add(probe(s(s("cond", "status 1"), count("keys # 1", 0, 23), count("keys # 2", 0, 23))));
    all.add(probe(s(s("table", "status 0"), count("keyOf # 0", 0, 59))));
    all.add(probe(s(s("back"), count("status #", 0, 7), count("holds #", 0, 7),
        count("keyOf # 0", 0, 59), count("keys # 1", 0, 23), count("condOf # 0", 0, 23))));
    return all.toArray(new String[0][]);
  }

  private static String[] probe(List<String> steps) {
    return steps.toArray(new String[0]);
  }

  private static List<String> s(String... steps) {
    return Arrays.asList(steps);
  }

  @SafeVarargs
  private static List<String> s(List<String>... parts) {
    List<String> all = new ArrayList<>();
    for (List<String> part : parts) {
      all.addAll(part);
    }
    return all;
  }

  private static List<String> count(String step, int least, int most) {
    List<String> all = new ArrayList<>();
    for (int v = least; v <= most; v++) {
      all.add(step.replace("#", "" + v));
    }
    return all;
  }
}
