/** Promises 7 (letter), 8 (habit), 35 (count). */
public final class LookupTest {
  private static final Check C = new Check();
  private static final String BOOK = "book 2 9;letter 1 1;letter 2 3;letter 1 4;letter 5 5;habit 1 6;habit 0 0;hangs 2 1";

  public static void main(String[] args) {
    letters();
    habits();
    counts();
    C.close();
  }

  private static void letters() {
    ErrataRow row = Check.row(BOOK);
    int[][] want = {{1, 1, 0, 0}, {2, 3, 0, 0}, {1, 4, 0, 2}, {5, 5, 0, 0}};
    for (int i = 0; i < 4; i++) {
      for (int what = 0; what < 4; what++) {
        C.due("letter(" + i + ", " + what + ")", row.letter(i, what), want[i][what]);
      }
    }
    row.edition();
    C.due("put by habit", row.letter(0, 0), 6);
    C.due("mended", row.letter(1, 0), 3);
    C.due("paid", row.letter(0, 2), 1);
    C.due("not paid", row.letter(1, 2), 0);
    C.due("paid", row.letter(2, 2), 1);
    row.hang(2, 3);
    C.due("hangs on two", row.letter(2, 3), 10);
    C.due("letter(-1, 0)", row.letter(-1, 0), -1);
    C.due("letter(4, 0)", row.letter(4, 0), -1);
    C.due("letter(most, 0)", row.letter(Integer.MAX_VALUE, 0), -1);
    C.due("letter(least, 0)", row.letter(Integer.MIN_VALUE, 0), -1);
    C.due("letter(0, -1)", row.letter(0, -1), -1);
    C.due("letter(0, 4)", row.letter(0, 4), -1);
    C.due("letter of no book", new ErrataRow().letter(0, 0), -1);
  }

  private static void habits() {
    ErrataRow row = Check.row(BOOK);
    C.due("habit(0, 0)", row.habit(0, 0), 1);
    C.due("habit(0, 1)", row.habit(0, 1), 6);
    C.due("habit(1, 0)", row.habit(1, 0), 0);
    C.due("habit(1, 1)", row.habit(1, 1), 0);
    C.due("habit(2, 0)", row.habit(2, 0), -1);
    C.due("habit(-1, 0)", row.habit(-1, 0), -1);
    C.due("habit(0, 2)", row.habit(0, 2), -1);
    C.due("habit(0, -1)", row.habit(0, -1), -1);
    C.due("habit(most, 0)", row.habit(Integer.MAX_VALUE, 0), -1);
    row = Check.row("book 1 0;letter 1 1");
    C.due("none told: habit(0, 0)", row.habit(0, 0), 0);
    C.due("none told: habit(0, 1)", row.habit(0, 1), 0);
    C.due("none told: habit(1, 0)", row.habit(1, 0), -1);
    row = Check.row("book 1 0" + Check.repeated(";habit 7 3", "", 12));
    C.due("habit(11, 0)", row.habit(11, 0), 7);
    C.due("habit(11, 1)", row.habit(11, 1), 3);
    C.due("habit(12, 1)", row.habit(12, 1), -1);
    C.due("habit of no book", new ErrataRow().habit(0, 0), -1);
  }

  private static void counts() {
    ErrataRow row = Check.row(BOOK, "mend 1", "mend 2");
    row.force(1);
    row.seed(2147483647);
    row.note(60, 3, 7);
    row.note(0, 0, 0);
    int[] want = {2, 2, 4, 2, 1, 0, 6, 2, 9, 0, 2, 0, 2147483647, 0};
    dueAll(row, want);
    // Editions 0 to 4: by the fifth one nobody can be paid any more.
    for (int i = 0; i < 5; i++) {
      row.edition();
    }
    row.feed(0, 0, 0, 0, 0);
    dueAll(row, new int[] {2, 2, 4, 2, 1, 5, 1, 1, 1, 1, 2, 5, 2147483647, 20});
    C.due("count(-1)", row.count(-1), -1);
    C.due("count(14)", row.count(14), -1);
    C.due("count(least)", row.count(Integer.MIN_VALUE), -1);
    C.due("one edition without a habit", Check.row("book 1 0").count(1), 1);
  }

  private static void dueAll(ErrataRow row, int[] want) {
    for (int what = 0; what < want.length; what++) {
      C.due("count(" + what + ")", row.count(what), want[what]);
    }
  }
}
