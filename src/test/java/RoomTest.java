import java.lang.management.ManagementFactory;

/** All calls of one run live in one room: a new object is small, and no call makes anything. */
public final class RoomTest {
  private static final int OBJECTS = 64, ROUNDS = 20;
  /** The machine's own bookkeeping (classes loaded late) may fall into what is measured. */
  private static final long SLACK = 64 * 1024;
  private static final com.sun.management.ThreadMXBean THREADS =
      (com.sun.management.ThreadMXBean) ManagementFactory.getThreadMXBean();
  private static long sum = 0;

  public static void main(String[] args) {
    Check check = new Check("RoomTest");
    calls(new WetPrints());
    long id = Thread.currentThread().getId(), begun = THREADS.getThreadAllocatedBytes(id);
    WetPrints[] all = new WetPrints[OBJECTS];
    for (int i = 0; i < OBJECTS; i++) all[i] = new WetPrints();
    long made = THREADS.getThreadAllocatedBytes(id) - begun;
    check.due("a new object takes under 32 KiB, not " + made / OBJECTS, made / OBJECTS < 32 * 1024 ? 1 : 0, 1);
    begun = THREADS.getThreadAllocatedBytes(id);
    for (int i = 0; i < ROUNDS; i++) calls(all[i]);
    long used = THREADS.getThreadAllocatedBytes(id) - begun;
    check.due("calls make nothing, not " + used, used < SLACK ? 1 : 0, 1);
    check.due("something was asked", sum != 0 ? 1 : 0, 1);
    check.end();
  }

  /** Every call, and the dear ones with as much as they can have. */
  private static void calls(WetPrints x) {
    for (int k = 0; k < 7; k++) sum += x.block(k % 4, k + 1, 9, 65535 - k);
    for (int i = 0; i < 22; i++) {
      sum += x.shifts(i % 6, i % 7 - 3, i % 5 - 2) + x.behind(i % 6, i % 5, i % 2) + x.behind(i % 6, i % 5, 0);
      sum += x.plans(i % 17, i % 8) + x.of(i % 6, i % 8) + x.common(i % 6, i % 5, i % 2) + x.fit(i % 6, i % 3);
      sum += x.lawful() + x.least(i % 10, i % 7 - 1) + x.nearest(i % 10, i % 7 - 2) + x.sheets();
      sum += x.prints(i % 6, i % 10) + x.cell(i % 16, i % 4) + x.hand(i % 7) + x.print(i % 13, i % 3);
      sum += x.type('n') + x.type(';') + x.reads() + x.back() + x.told(i % 6) + x.digest() + (i % 13 == 0 ? x.news() : 0);
    }
    sum += x.clear();
  }
}
