/** Promises 15 (ahead), 16 (allRight), 17 (firstRight), 18 (unpaid), 19 (row), 28 (ring). */
public final class AheadTest {
  private static final Check C = new Check();
  private static final String BOOK = "book 2 9;letter 1 1;letter 2 3;letter 1 4;letter 5 5;habit 1 6;habit 0 0;hangs 2 1";

  public static void main(String[] args) {
    aheads();
    firstEditions();
    theLastOf200();
    unpaids();
    rows();
    ringsOfEditions();
    beyond999();
    nothingChanges();
    withoutABook();
    C.close();
  }

  private static void aheads() {
    ErrataRow row = Check.row(BOOK);
    int[][] puts = {{1, 2, 1, 5}, {6, 3, 1, 5}, {1, 3, 1, 5}, {6, 3, 4, 5}, {1, 3, 4, 5}, {6, 3, 4, 5}};
    int[] wrong = {6, 5, 4, 1, 0, 1};
    int[] purse = {9, 5, 3, 1, 1, 1};
    int[] owed = {0, 0, 0, 0, 0, 1};
    for (int n = 0; n < puts.length; n++) {
      for (int i = 0; i < 4; i++) {
        C.due("ahead(" + i + ", " + n + ", 0)", row.ahead(i, n, 0), puts[n][i]);
      }
      C.due("ahead(0, " + n + ", 1)", row.ahead(0, n, 1), wrong[n]);
      C.due("ahead(-7, " + n + ", 2)", row.ahead(-7, n, 2), purse[n]);
      C.due("ahead(99, " + n + ", 3)", row.ahead(99, n, 3), owed[n]);
    }
    // From edition 4 on one is owed each second edition: in 4, 6, .. 98.
    C.due("ahead(0, 100, 3)", row.ahead(0, 100, 3), 48);
    C.due("ahead(0, 101, 3)", row.ahead(0, 101, 3), -1);
    C.due("ahead(0, -1, 3)", row.ahead(0, -1, 3), -1);
    C.due("ahead(0, 1, 4)", row.ahead(0, 1, 4), -1);
    C.due("ahead(0, 1, -1)", row.ahead(0, 1, -1), -1);
    C.due("ahead(4, 1, 0)", row.ahead(4, 1, 0), -1);
    C.due("ahead(-1, 1, 0)", row.ahead(-1, 1, 0), -1);
    // By the rule in force.
    row = Check.row(BOOK, "mend 0");
    C.due("by a rule", row.ahead(1, 9, 0), 2);
    row.force(-1);
    C.due("by none", row.ahead(1, 9, 0), 3);
    ErrataRow ten = Check.row("book 1 0" + Check.repeated(";letter 0 1", "", 10), "mend 0");
    C.due("owed at most", ten.ahead(0, 100, 3), 999);
    C.due("owed", ten.ahead(0, 99, 3), 990);
  }

  private static void firstEditions() {
    ErrataRow row = Check.row(BOOK);
    C.due("allRight", row.allRight(), 3);
    int[] want = {1, 0, 2, 0};
    for (int i = 0; i < 4; i++) {
      C.due("firstRight(" + i + ")", row.firstRight(i), want[i]);
    }
    C.due("firstRight(4)", row.firstRight(4), -1);
    C.due("firstRight(-1)", row.firstRight(-1), -1);
    row.edition();
    row.edition();
    // The edition's own number, and this one is the first.
    C.due("allRight from 2", row.allRight(), 3);
    C.due("firstRight(0) from 2", row.firstRight(0), 3);
    C.due("firstRight(1) from 2", row.firstRight(1), 2);
    C.due("a book without letters", Check.row("book 1 0").allRight(), 0);
    ErrataRow never = Check.row("book 1 0;letter 0 1;letter 0 0", "mend 0");
    C.due("never all right", never.allRight(), -2);
    C.due("never right", never.firstRight(0), -2);
    C.due("right at once", never.firstRight(1), 0);
  }

  private static void theLastOf200() {
    ErrataRow row = Check.row("book 1 0;letter 0 1", "mend 1 if edition = 199");
    C.due("allRight in the 200th", row.allRight(), 199);
    C.due("firstRight in the 200th", row.firstRight(0), 199);
    row = Check.row("book 1 0;letter 0 1", "mend 1 if edition = 200");
    C.due("allRight in the 201st", row.allRight(), -2);
    C.due("firstRight in the 201st", row.firstRight(0), -2);
    row.edition();
    C.due("allRight, one edition later", row.allRight(), 200);
    C.due("firstRight, one edition later", row.firstRight(0), 200);
    row = Check.row("book 1 199;letter 0 1", "mend 0");
    C.due("unpaid in the 200th: none", row.ahead(0, 100, 2), 99);
    C.due("unpaid in the 200th", row.unpaid(0), 199);
    C.due("which", row.unpaid(1), 0);
    row = Check.row("book 1 200;letter 0 1", "mend 0");
    C.due("unpaid in the 201st", row.unpaid(0), -2);
    C.due("which", row.unpaid(1), -2);
    row.edition();
    C.due("unpaid, one edition later", row.unpaid(0), 200);
  }

  private static void unpaids() {
    ErrataRow row = Check.row(BOOK);
    C.due("unpaid(0)", row.unpaid(0), 4);
    C.due("unpaid(1)", row.unpaid(1), 0);
    C.due("unpaid(2)", row.unpaid(2), -1);
    C.due("unpaid(-1)", row.unpaid(-1), -1);
    row = Check.row("book 2 5;letter 0 0;letter 0 1;letter 0 1;letter 0 1;letter 0 1", "mend 0");
    C.due("unpaid(0)", row.unpaid(0), 0);
    C.due("the least of them", row.unpaid(1), 3);
    row = Check.row("book 1 0;letter 1 1;letter 2 3;habit 5 5");
    C.due("mended ahead of pay", row.unpaid(0), -2);
    C.due("none", row.unpaid(1), -2);
  }

  private static void rows() {
    ErrataRow row = Check.row(BOOK, "mend 0");
    int[][] want = {{2, 1, -2, -2, -2}, {1, 1, 0, -2, -2}, {0, 1, 2, 0, -2}, {0, -1, 1, 0, 2}};
    for (int n = 1; n <= 4; n++) {
      for (int what = 0; what <= 4; what++) {
        C.due("row(" + n + ", " + what + ")", row.row(n, what), want[n - 1][what]);
      }
    }
    C.due("row(0, 0)", row.row(0, 0), -3);
    C.due("row(5, 0)", row.row(5, 0), -3);
    C.due("row(-1, 0)", row.row(-1, 0), -3);
    C.due("row(1, 5)", row.row(1, 5), -3);
    C.due("row(1, -1)", row.row(1, -1), -3);
    C.due("row(5, 5)", row.row(5, 5), -3);
    // Without letters, and with nothing wrong, nothing is mended.
    row = Check.row("book 1 0");
    C.due("row(4, 0)", row.row(4, 0), 0);
    C.due("row(4, 4)", row.row(4, 4), -1);
    row = Check.row("book 1 0;letter 1 1;letter 2 2;letter 3 4;habit 4 5");
    C.due("one is mended only in the last", row.row(2, 1), -1);
    C.due("there", row.row(2, 2), 2);
    C.due("none wrong then", row.row(2, 0), 0);
    // Ten loose ones: four are mended, the least first.
    row = Check.row("book 1 0" + Check.repeated(";letter 0 1", "", 10));
    C.due("ten: row(4, 0)", row.row(4, 0), 6);
    for (int what = 1; what <= 4; what++) {
      C.due("ten: row(4, " + what + ")", row.row(4, what), what - 1);
    }
    // The last letter can be the one.
    row = Check.row("book 1 0" + Check.repeated(";letter 1 1", "", 9) + ";letter 0 1");
    C.due("the tenth: row(1, 1)", row.row(1, 1), 9);
  }

  private static void ringsOfEditions() {
    ErrataRow row = Check.row(BOOK);
    C.due("ring(0)", row.ring(0), 3);
    C.due("ring(1)", row.ring(1), 2);
    C.due("ring(2)", row.ring(2), -1);
    C.due("ring(-1)", row.ring(-1), -1);
    row.edition();
    C.due("ring(0) from 1", row.ring(0), 3);
    row = Check.row("book 1 0;letter 0 0");
    C.due("it stays: ring(0)", row.ring(0), 0);
    C.due("it stays: ring(1)", row.ring(1), 1);
    // The same edition must come round, though what is put is the same.
    row = Check.row("book 1 0;letter 0 0;habit 7 7;habit 6 6;habit 5 5");
    C.due("three: ring(0)", row.ring(0), 0);
    C.due("three: ring(1)", row.ring(1), 3);
    // A rule that goes by how often: no ring, as the letter is mended just once.
    row = Check.row("book 1 0;letter 0 1;habit 1 1", "mend 1 if edition = 58");
    C.due("the first one: ring(0)", row.ring(0), 0);
    row = Check.row("book 1 0;letter 0 1;letter 0 1;letter 0 1;letter 0 1;letter 0 1;letter 0 1;letter 0 1;"
        + "letter 0 1;letter 0 1;letter 0 1" + Check.repeated(";habit 7 7", "", 12), "mend 1 if edition % 6 = 5");
    // Put as at no begin of the same edition until all ten are mended, in edition 59.
    C.due("ten: ring(0)", row.ring(0), -2);
    C.due("ten: ring(1)", row.ring(1), -2);
    row.edition();
    C.due("still: ring(0)", row.ring(0), -2);
    for (int i = 1; i < 12; i++) {
      row.edition();
    }
    // Behind edition 59 nothing changes: 60 is as 72, and that is 60 from 12.
    C.due("from 12: ring(0)", row.ring(0), 60);
    C.due("from 12: ring(1)", row.ring(1), 12);
    C.due("from 11: undone", row.undo(), 11);
    C.due("from 11: ring(0)", row.ring(0), -2);
  }

  private static void beyond999() {
    // Editions that are asked go on, whatever edition it is.
    ErrataRow row = Check.row("book 1 0;letter 0 1", "mend 1 if edition = 250");
    for (int i = 0; i < 180; i++) {
      row.edition();
    }
    C.due("ahead(0, 70, 0)", row.ahead(0, 70, 0), 0);
    C.due("ahead(0, 71, 0)", row.ahead(0, 71, 0), 1);
    C.due("allRight", row.allRight(), 250);
  }

  private static void nothingChanges() {
    ErrataRow row = Check.row(BOOK);
    row.edition();
    int[] want = new int[14];
    for (int what = 0; what < 14; what++) {
      want[what] = row.count(what);
    }
    row.ahead(0, 100, 0);
    row.allRight();
    row.firstRight(0);
    row.unpaid(0);
    row.row(4, 0);
    row.ring(0);
    for (int what = 0; what < 14; what++) {
      C.due("count(" + what + ") behind asking", row.count(what), want[what]);
    }
    C.due("put", row.letter(0, 0), 6);
    C.due("paid", row.letter(0, 2), 1);
    C.due("hangs", row.letter(2, 3), 2);
  }

  private static void withoutABook() {
    ErrataRow row = new ErrataRow();
    C.due("ahead", row.ahead(0, 1, 1), -1);
    C.due("allRight", row.allRight(), -1);
    C.due("firstRight", row.firstRight(0), -1);
    C.due("unpaid", row.unpaid(0), -1);
    C.due("row", row.row(1, 0), -3);
    C.due("row(1, 2)", row.row(1, 2), -3);
    C.due("ring", row.ring(0), -1);
  }
}
