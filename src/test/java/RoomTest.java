import com.sun.management.ThreadMXBean;
import java.lang.management.ManagementFactory;

/** All calls of one run live in one room: what is asked makes no objects, and all 512 calls few. */
public final class RoomTest {
  private static final Check C = new Check();
  private static final ThreadMXBean THREADS = (ThreadMXBean) ManagementFactory.getThreadMXBean();
  private static final int MANY = 512;
  private static final String TEN = "book 1 500" + Check.repeated(";letter 0 1", "", 10) + ";habit 1 0;habit 1 2;hangs 3 2;hangs 5 4";

  public static void main(String[] args) {
    // Twice, as the first time the machine itself makes objects.
    for (int time = 0; time < 2; time++) {
      long asked = bytesOf(RoomTest::askAll);
      long acted = bytesOf(RoomTest::actOften);
      long made = bytesOf(ErrataRow::new);
      if (time == 1) {
        System.out.println(asked + " bytes of " + MANY + " rounds of questions, " + acted + " of as many acts, "
            + made + " of one object");
        C.isTrue("questions make no objects", asked < 100_000);
        C.isTrue("acts make few objects", acted < 200_000);
        C.isTrue("one object is small", made < 50_000);
      }
    }
    C.close();
  }

  private static long bytesOf(Runnable work) {
    long thread = Thread.currentThread().getId();
    long before = THREADS.getThreadAllocatedBytes(thread);
    work.run();
    return THREADS.getThreadAllocatedBytes(thread) - before;
  }

  private static void askAll() {
    ErrataRow row = Check.row(TEN, "mend put + 1 if purse % 3 = 1 or over > 0;mend letter + 1");
    row.note(30, 0, 0);
    for (int i = 0; i < MANY; i++) {
      row.ahead(0, 100, i % 4);
      row.allRight();
      row.firstRight(i % 10);
      row.unpaid(0);
      row.rings();
      row.twice(0);
      row.apart(0, 0, 10);
      row.ring(0);
      row.pence(i, 0);
      row.putAs(0);
      row.ruled(0);
      row.look(60, 0);
      row.count(i % 14);
      if (i % 16 == 0) {
        row.row(4, 0);
        row.one(40, 0);
        row.leftOff(40, 0);
        row.leastPurse(40);
        row.rests(0, 1, 20, 0);
        row.slips(10, 60, 50, 0);
      }
    }
  }

  private static void actOften() {
    ErrataRow row = Check.row(TEN);
    for (int i = 0; i < MANY; i++) {
      row.edition();
      row.set(0, i % 8);
      row.fill(1);
      row.image(i % 4);
      if (i % 5 == 0) {
        row.undo();
        row.back(i % 4);
      }
      row.feed(i, i, i, i, i);
      row.book();
    }
  }
}
