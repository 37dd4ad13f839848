/** Promises 33 (seed) and 34 (slips). */
public final class SlipsTest {
  private static final Check C = new Check();
  // Nobody is mended or paid: what slips stays, and each wrong one is owed in each edition.
  private static final String BOOK = "book 1 0;letter 0 0;letter 0 0;letter 0 0";

  public static void main(String[] args) {
    seeds();
    slips();
    fromNow();
    outside();
    C.close();
  }

  private static void seeds() {
    ErrataRow row = new ErrataRow();
    C.due("seed(7)", row.seed(7), 0);
    C.due("seed(-1)", row.seed(-1), -1);
    C.due("seed(least)", row.seed(Integer.MIN_VALUE), -1);
    C.due("x", row.count(12), 7);
    C.due("seed(most)", row.seed(2147483647), 7);
    C.due("x", row.count(12), 2147483647);
    C.due("seed(0)", row.seed(0), 2147483647);
    C.due("x", row.count(12), 0);
  }

  private static void slip(ErrataRow row, int m, int n, int p, int wrong, int owed) {
    String call = "slips(" + m + ", " + n + ", " + p + ", ";
    C.due(call + "0)", row.slips(m, n, p, 0), wrong);
    C.due(call + "1)", row.slips(m, n, p, 1), owed);
  }

  private static void slips() {
    ErrataRow row = Check.row(BOOK, "mend 0");
    // From x 0 the draws are 0, 21468, 9988, 22117, 3498, 16927, 16045, 19741, 12122 ..:
    // letter 0 is put as 4, then as 7; then 16045 % 100 is 45.
    slip(row, 1, 1, 100, 1, 1);
    slip(row, 1, 1, 1, 1, 1);
    slip(row, 1, 1, 0, 0, 0);
    slip(row, 1, 2, 100, 1, 2);
    slip(row, 1, 2, 17, 1, 2);
    slip(row, 1, 3, 45, 1, 3);
    slip(row, 1, 3, 46, 2, 4);
    slip(row, 2, 3, 50, 3, 7);
    slip(row, 10, 60, 20, 24, 1032);
    C.due("x stays", row.count(12), 0);
    row.seed(1);
    slip(row, 2, 3, 50, 3, 6);
    row.seed(2147483647);
    slip(row, 10, 60, 100, 28, 1580);
    C.due("x stays", row.count(12), 2147483647);
    C.due("nothing stays", row.count(6), 0);
    C.due("nothing is owed", row.count(9), 0);
    C.due("edition", row.count(5), 0);
    // By no rule, what slips is mended in the same edition.
    row.force(-1);
    slip(row, 1, 1, 100, 0, 0);
    slip(Check.row("book 1 0"), 10, 60, 100, 0, 0);
  }

  private static void fromNow() {
    // What is owed now is owed each time; one that is wrong now is wrong each time.
    ErrataRow row = Check.row("book 1 1;letter 0 1", "mend 0");
    row.edition();
    row.edition();
    row.edition();
    C.due("owed", row.count(9), 2);
    slip(row, 3, 4, 0, 3, 18);
  }

  private static void outside() {
    ErrataRow row = Check.row(BOOK);
    C.due("slips(0, 1, 1, 0)", row.slips(0, 1, 1, 0), -1);
    C.due("slips(11, 1, 1, 0)", row.slips(11, 1, 1, 0), -1);
    C.due("slips(1, 0, 1, 0)", row.slips(1, 0, 1, 0), -1);
    C.due("slips(1, 61, 1, 0)", row.slips(1, 61, 1, 0), -1);
    C.due("slips(1, 1, -1, 0)", row.slips(1, 1, -1, 0), -1);
    C.due("slips(1, 1, 101, 0)", row.slips(1, 1, 101, 0), -1);
    C.due("slips(1, 1, 1, -1)", row.slips(1, 1, 1, -1), -1);
    C.due("slips(1, 1, 1, 2)", row.slips(1, 1, 1, 2), -1);
    C.due("slips without a book", new ErrataRow().slips(1, 1, 1, 0), -1);
  }
}
