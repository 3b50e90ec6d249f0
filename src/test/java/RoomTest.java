import com.sun.management.ThreadMXBean;
import java.lang.management.ManagementFactory;
import java.lang.reflect.Array;
import java.lang.reflect.Field;
import java.lang.reflect.Modifier;
import java.util.IdentityHashMap;
import java.util.Map;

/**
 * All calls of a run live in one room: an object is so small that a run of nothing but new objects
 * has room in it, and no call makes anything more, however dear it is.
 */
public final class RoomTest {
  private static final int CALLS = 512;
  private static final int ROOM_OF_OBJECTS = 600_000;
  private static final int ROOM_OF_PLACES = 7_300_000;
  private static final ThreadMXBean THREADS =
      (ThreadMXBean) ManagementFactory.getThreadMXBean();

  public static void main(String[] args) throws IllegalAccessException {
    Checks checks = new Checks("RoomTest");
    playAll(new SkippingKeys()); // what the machine itself makes at the first calls is no matter
    SkippingKeys x = new SkippingKeys();
    checkSize(checks, x, "a new object");

    long before = made();
    playAll(x);
    long calls = made() - before;
    System.out.println("RoomTest: its calls made some " + calls + " bytes");
    checks.due("calls make less than 20000 bytes in all", calls < 20000 ? 1 : 0, 1);
    checkSize(checks, x, "an object behind all its calls");
    checks.end();
  }

  private static void checkSize(Checks checks, SkippingKeys x, String name)
      throws IllegalAccessException {
    Map<Object, Integer> placesOf = new IdentityHashMap<>();
    collect(x, placesOf);
    int places = 0;
    for (int one : placesOf.values()) {
      places += one;
    }
    int objects = placesOf.size();
    System.out.println("RoomTest: " + name + " is " + objects + " objects and arrays, " + places
        + " fields and elements");
    checks.due(name + ": few objects", CALLS * objects < ROOM_OF_OBJECTS ? 1 : 0, 1);
    checks.due(name + ": few fields and elements", CALLS * places < ROOM_OF_PLACES ? 1 : 0, 1);
  }

  /** An object with all that it holds, and how many fields or elements each of these has. */
  private static void collect(Object it, Map<Object, Integer> placesOf)
      throws IllegalAccessException {
    if (it == null || placesOf.containsKey(it)) {
      return;
    }
    if (it.getClass().isArray()) {
      placesOf.put(it, Array.getLength(it));
      for (int i = 0; it instanceof Object[] && i < Array.getLength(it); i++) {
        collect(Array.get(it, i), placesOf);
      }
      return;
    }
    int fields = 0;
    placesOf.put(it, fields);
    for (Field field : it.getClass().getDeclaredFields()) {
      if (!Modifier.isStatic(field.getModifiers())) {
        fields++;
        field.setAccessible(true);
        if (!field.getType().isPrimitive()) {
          collect(field.get(it), placesOf);
        }
      }
    }
    placesOf.put(it, fields);
  }

  private static long made() {
    return THREADS.getThreadAllocatedBytes(Thread.currentThread().getId());
  }

  private static void playAll(SkippingKeys x) {
    feedAll(x, "c%21|(ab<45&-c[1 5])");
    x.cond();
    x.days(60);
    x.row(0, 3, 40);
    x.several(0, 3, 1);
    for (int call = 0; call < CALLS; call++) {
      playOne(x, call % 16, call % 6);
    }
  }

  private static void feedAll(SkippingKeys x, String text) {
    for (int i = 0; i < text.length(); i++) {
      x.feed(text.charAt(i));
    }
  }

  private static int playOne(SkippingKeys x, int call, int index) {
    switch (call) {
      case 0:
        return x.bestIndex(0, 1);
      case 1:
        return x.plan(5, index, 40, 39);
      case 2:
        return x.of(5, index, 2, 4);
      case 3:
        return x.found(0, index, -1);
      case 4:
        return x.order(0, index, 2, 1);
      case 5:
        return x.leaders(0, index, 2, 1);
      case 6:
        return x.image();
      case 7:
        return x.pair(6, 0, 3);
      case 8:
        return x.back();
      case 9:
        return x.same(5);
      case 10:
        return x.days(60);
      case 11:
        return x.judge(0, index, 0, 40);
      case 12:
        return x.signs(0, 5, 0, 20);
      case 13:
        return x.status(3);
      case 14:
        feedAll(x, "---((a?|b?)&c[1 2 3])");
        return x.cond();
      default:
        feedAll(x, "123;456;78.");
        return x.table();
    }
  }
}
