/** Promises 20 (rings), 21 (twice), 22 (apart), 29 (pence). */
public final class StandingTest {
  private static final Check C = new Check();
  private static final String BOOK = "book 2 9;letter 1 1;letter 2 3;letter 1 4;letter 5 5;habit 1 6;habit 0 0;hangs 2 1";

  public static void main(String[] args) {
    rings();
    twices();
    aparts();
    pences();
    withoutABook();
    C.close();
  }

  private static void rings() {
    ErrataRow row = Check.put("11111");
    C.due("none hangs", row.rings(), 0);
    row.hang(0, 1);
    row.hang(1, 2);
    row.hang(3, 0);
    C.due("a row is no ring", row.rings(), 0);
    row.hang(2, 0);
    C.due("three, and one that hangs on them", row.rings(), 7);
    row.hang(1, 0);
    row.hang(2, 0);
    C.due("two", row.rings(), 3);
    row.hang(3, 4);
    row.hang(4, 3);
    C.due("two twos", row.rings(), 27);
    row.set(1, 0);
    C.due("not over one that is right", row.rings(), 24);
    row.set(3, 0);
    C.due("none", row.rings(), 0);
    row = Check.put("1111111111");
    for (int i = 0; i < 10; i++) {
      row.hang((i * 3 + 3) % 10, i * 3 % 10);
    }
    C.due("all ten in one", row.rings(), 1023);
    row.set(5, 0);
    C.due("broken", row.rings(), 0);
    C.due("a book without letters", Check.row("book 1 0").rings(), 0);
  }

  private static void twice(String digits, int length, int first, int second) {
    ErrataRow row = Check.put(digits);
    C.due(digits + ": twice(0)", row.twice(0), length);
    C.due(digits + ": twice(1)", row.twice(1), first);
    C.due(digits + ": twice(2)", row.twice(2), second);
  }

  private static void twices() {
    twice("", 0, -2, -2);
    twice("1", 0, -2, -2);
    twice("12345670", 0, -2, -2);
    twice("1215", 1, 0, 2);
    twice("11", 1, 0, 1);
    twice("111", 2, 0, 1);
    twice("1111111111", 9, 0, 1);
    twice("1212121212", 8, 0, 2);
    twice("3122312", 3, 0, 4);
    twice("0112312", 2, 2, 5);
    // Of several the least first place, then the least second place.
    twice("1312121", 3, 2, 4);
    twice("5656712312", 2, 0, 2);
    twice("7121212", 4, 1, 3);
    twice("1232415", 1, 0, 5);
    ErrataRow row = Check.put("11");
    C.due("twice(3)", row.twice(3), -1);
    C.due("twice(-1)", row.twice(-1), -1);
    row.set(1, 2);
    C.due("as it is put now", row.twice(0), 0);
  }

  private static void aparts() {
    ErrataRow row = Check.put("1215");
    C.due("apart(0, 2, 2)", row.apart(0, 2, 2), 1);
    C.due("apart(2, 0, 2)", row.apart(2, 0, 2), 1);
    C.due("apart(0, 1, 3)", row.apart(0, 1, 3), 2);
    C.due("apart(0, 1, 1)", row.apart(0, 1, 1), 1);
    C.due("apart(0, 2, 1)", row.apart(0, 2, 1), 0);
    C.due("apart(0, 0, 4)", row.apart(0, 0, 4), 0);
    C.due("apart(3, 3, 1)", row.apart(3, 3, 1), 0);
    C.due("apart(0, 1, 4)", row.apart(0, 1, 4), -1);
    C.due("apart(1, 0, 4)", row.apart(1, 0, 4), -1);
    C.due("apart(0, 0, 5)", row.apart(0, 0, 5), -1);
    C.due("apart(0, 1, 0)", row.apart(0, 1, 0), -1);
    C.due("apart(0, 1, -1)", row.apart(0, 1, -1), -1);
    C.due("apart(-1, 1, 1)", row.apart(-1, 1, 1), -1);
    C.due("apart(0, -1, 2)", row.apart(0, -1, 2), -1);
    C.due("apart(4, 0, 1)", row.apart(4, 0, 1), -1);
    C.due("apart(0, 4, 1)", row.apart(0, 4, 1), -1);
    C.due("apart(0, most, 1)", row.apart(0, Integer.MAX_VALUE, 1), -1);
    C.due("apart(0, 0, most)", row.apart(0, 0, Integer.MAX_VALUE), -1);
    row = Check.put("1234123467");
    C.due("12341 and 23412", row.apart(0, 1, 5), 2);
    C.due("12341 and 23467", row.apart(0, 5, 5), 3);
    C.due("1234 and 1234", row.apart(0, 4, 4), 0);
    C.due("1234 and 3412", row.apart(0, 2, 4), 4);
    C.due("123412346 and 234123467", row.apart(0, 1, 9), 2);
    C.due("all ten", row.apart(0, 0, 10), 0);
    C.due("more than ten", row.apart(0, 0, 11), -1);
    row = Check.put("1234567001");
    C.due("12345 and 67001", row.apart(0, 5, 5), 5);
  }

  private static void pences() {
    ErrataRow row = Check.row(BOOK);
    C.due("none was paid", row.pence(9999, 0), 0);
    row.edition();
    row.edition();
    // Paid: 1, 0, 2, 0.
    pence(row, 10, 3, 0, 7, 0);
    pence(row, 9, 3, 0, 6, 0);
    pence(row, 8, 3, 0, 5, 0);
    pence(row, 1, 0, 0, 1, 0);
    pence(row, 2, 1, 0, 1, 0);
    pence(row, 0, 0, 0, 0, 0);
    pence(row, 9999, 3333, 0, 6666, 0);
    row.edition();
    // Paid: 2, 0, 2, 0; of two who lost as much the least is first.
    pence(row, 5, 3, 0, 2, 0);
    pence(row, 1, 1, 0, 0, 0);
    C.due("pence(-1, 0)", row.pence(-1, 0), -1);
    C.due("pence(10000, 0)", row.pence(10000, 0), -1);
    C.due("pence(1, 4)", row.pence(1, 4), -1);
    C.due("pence(1, -1)", row.pence(1, -1), -1);
    // Seven paid alike, and two are left.
    row = Check.row("book 1 7" + Check.repeated(";letter 0 1", "", 8), "mend 0");
    row.edition();
    pence(row, 9, 2, 2, 1, 1, 1, 1, 1, 0);
    pence(row, 6, 1, 1, 1, 1, 1, 1, 0, 0);
    pence(row, 7, 1, 1, 1, 1, 1, 1, 1, 0);
  }

  private static void pence(ErrataRow row, int much, int... want) {
    for (int i = 0; i < want.length; i++) {
      C.due("pence(" + much + ", " + i + ")", row.pence(much, i), want[i]);
    }
  }

  private static void withoutABook() {
    ErrataRow row = new ErrataRow();
    C.due("rings", row.rings(), -1);
    C.due("twice", row.twice(0), -1);
    C.due("apart", row.apart(0, 0, 1), -1);
    C.due("pence", row.pence(0, 0), -1);
  }
}
