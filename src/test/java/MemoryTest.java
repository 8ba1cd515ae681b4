import com.sun.management.ThreadMXBean;
import java.lang.management.ManagementFactory;

/** All calls of a run live in one room: an object is made small, and no call makes anything. */
public final class MemoryTest {
  private static final int MOST_BYTES_OF_AN_OBJECT = 16_000;
  private static final ThreadMXBean THREADS = (ThreadMXBean) ManagementFactory.getThreadMXBean();

  public static void main(String[] args) {
    // The first round loads the classes; what that makes is not the object's.
    use(new LineDealer(3));
    long start = THREADS.getCurrentThreadAllocatedBytes();
    LineDealer dealer = new LineDealer(3);
    long made = THREADS.getCurrentThreadAllocatedBytes();
    use(dealer);
    long used = THREADS.getCurrentThreadAllocatedBytes();
    System.out.println("an object: " + (made - start) + " bytes, its calls: " + (used - made) + " bytes");
    if (made - start > MOST_BYTES_OF_AN_OBJECT || used != made) System.exit(1);
  }

  private static void use(LineDealer x) {
    for (int i = 0; i < 300; i++) {
      x.rule(i % 3);
      x.line(i % 40, (i * 7 + 1) % 40);
      if (i == 7) x.best();
    }
    for (int p = 0; p < 40; p++) {
      x.part(p);
      x.master(p);
      x.copies(p);
      x.degree(p);
      x.count(p);
      x.run(p % 4);
    }
    x.better(50);
    x.more();
    x.less(0);
    x.window(8);
    x.best();
    x.leave(299);
    x.all();
    x.room();
    x.load(1);
    x.host(298);
    x.weights(0, 0);
  }
}
