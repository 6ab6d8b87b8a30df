import com.sun.management.ThreadMXBean;
import java.lang.management.ManagementFactory;

/** All calls of a run live in one room: 512 of the dearest ones stay far within it. */
public final class RoomTest {
  private static final int ROUNDS = 30;
  /** 7.3 million fields and elements, of four bytes each, by 512 calls. */
  private static final long BYTES_OF_A_CALL = 7_300_000L * 4 / 512;
  private static final int CALLS_OF_A_ROUND = 13;
  private static final ThreadMXBean THREADS =
      (ThreadMXBean) ManagementFactory.getThreadMXBean();

  private static long sum = 0;

  public static void main(String[] args) {
    // The first round loads classes.
    bytesOfCalls();
    bytesOfTexts();
    long calls = bytesOfCalls() / ROUNDS / CALLS_OF_A_ROUND;
    long texts = bytesOfTexts() / ROUNDS;
    long objects = bytesOfObjects() / ROUNDS;
    Check.tell("bytes of a call are " + calls, true, calls < BYTES_OF_A_CALL);
    Check.tell("bytes of a text() are " + texts, true, texts < BYTES_OF_A_CALL);
    Check.tell("bytes of a new object are " + objects, true, objects < BYTES_OF_A_CALL);
    Check.tell("all answered", true, sum != 0);
    Check.close();
  }

  private static Partlister full() {
    Partlister x = new Partlister();
    Check.fillUp(x, 0);
    return x;
  }

  private static long bytesOfCalls() {
    Partlister x = full();
    long before = THREADS.getCurrentThreadAllocatedBytes();
    for (int i = 0; i < ROUNDS; i++) {
      sum += callAll(x, i);
    }
    return THREADS.getCurrentThreadAllocatedBytes() - before;
  }

  private static long callAll(Partlister x, int i) {
    x.assign(1, 0);
    int part = x.part(0, 3, 28);
    int cursor = x.cursor(part, 1);
    x.next(cursor);
    x.put(cursor, i);
    x.drop(cursor);
    x.insert(cursor, 5);
    x.replaceAll(part, 3, 1);
    x.removeAll(1, part);
    x.move(part, 7);
    return x.sort(0, i % 5) + x.digest() + (x.isSound() ? 1 : 0);
  }

  private static long bytesOfTexts() {
    Partlister x = full();
    for (int i = 0; i < 300; i++) {
      x.set(0, i % 31, 30);
    }
    long before = THREADS.getCurrentThreadAllocatedBytes();
    for (int i = 0; i < ROUNDS; i++) {
      sum += x.text(0).length();
    }
    return THREADS.getCurrentThreadAllocatedBytes() - before;
  }

  private static long bytesOfObjects() {
    long before = THREADS.getCurrentThreadAllocatedBytes();
    for (int i = 0; i < ROUNDS; i++) {
      sum += new Partlister().size(0);
    }
    return THREADS.getCurrentThreadAllocatedBytes() - before;
  }
}
