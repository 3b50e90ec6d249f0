import com.sun.management.ThreadMXBean;
import java.lang.management.ManagementFactory;

/**
 * All calls of a run live in one room: an object is small, and no call makes anything more, however
 * dear it is.
 */
public final class RoomTest {
  private static final int CALLS = 512;
  private static final ThreadMXBean THREADS =
      (ThreadMXBean) ManagementFactory.getThreadMXBean();

  public static void main(String[] args) {
    Checks checks = new Checks("RoomTest");
    playAll(new SkippingKeys()); // what the machine itself makes at the first calls is no matter
    long before = made();
    SkippingKeys x = new SkippingKeys();
    long object = made() - before;
    System.out.println("RoomTest: an object has some " + object + " bytes");
    checks.due("an object has less than 200000 bytes", object < 200000 ? 1 : 0, 1);

    before = made();
    playAll(x);
    long calls = made() - before;
    System.out.println("RoomTest: its calls made some " + calls + " bytes");
    checks.due("calls make less than 20000 bytes in all", calls < 20000 ? 1 : 0, 1);
    checks.end();
  }

  private static long made() {
    return THREADS.getThreadAllocatedBytes(Thread.currentThread().getId());
  }

  private static void playAll(SkippingKeys x) {
    feedAll(x, "c%21|(ab<45&-c[1 5])");
    x.cond();
    x.days(60);
    x.row(0, 3, 40);
    x.several(0, 3, 1);
    for (int call = 0; call < CALLS; call++) {
      playOne(x, call % 16, call % 6);
    }
  }

  private static void feedAll(SkippingKeys x, String text) {
    for (int i = 0; i < text.length(); i++) {
      x.feed(text.charAt(i));
    }
  }

  private static int playOne(SkippingKeys x, int call, int index) {
    switch (call) {
      case 0:
        return x.bestIndex(0, 1);
      case 1:
        return x.plan(5, index, 40, 39);
      case 2:
        return x.of(5, index, 2, 4);
      case 3:
        return x.found(0, index, -1);
      case 4:
        return x.order(0, index, 2, 1);
      case 5:
        return x.leaders(0, index, 2, 1);
      case 6:
        return x.image();
      case 7:
        return x.pair(6, 0, 3);
      case 8:
        return x.back();
      case 9:
        return x.same(5);
      case 10:
        return x.days(60);
      case 11:
        return x.judge(0, index, 0, 40);
      case 12:
        return x.signs(0, 5, 0, 20);
      case 13:
        return x.status(3);
      case 14:
        feedAll(x, "---((a?|b?)&c[1 2 3])");
        return x.cond();
      default:
        feedAll(x, "123;456;78.");
        return x.table();
    }
  }
}
