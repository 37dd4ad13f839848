/** Promise 4 (book): what a BOOK is, its FAULTS, and what stays. */
public final class BookTest {
  private static final Check C = new Check();

  public static void main(String[] args) {
    goodBooks();
    bytesAndWordsThatCannotStand();
    numbersNotAsTold();
    tooMany();
    theLeastOfOnePlace();
    aNewBook();
    aFaultyBook();
    C.close();
  }

  private static void due(String text, int want) {
    C.due("book \"" + text + "\"", Check.book(new ErrataRow(), text), want);
  }

  private static void fault(String text, int place, int kind) {
    due(text, Check.fault(place, kind));
  }

  private static void goodBooks() {
    due("book 1 0", 0);
    due("book 9 999", 0);
    due("book 00009 00999", 0);
    due("book1 0;letter1 2;habit3 4", 1);
    due("   book  1   0   ;  letter 1 2  ;letter 0 7 ", 2);
    due("book 1 0" + Check.repeated(";letter 7 0", "", 10), 10);
    due("book 1 0" + Check.repeated(";habit 7 0", "", 12), 0);
    due("book 1 0;letter 0 0;letter 0 0;hangs 0 1;hangs 1 0;hangs 0 1", 2);
    due("book 1 0;letter 0 0;letter 0 0" + Check.repeated(";hangs0 1", "", 37), 2);
    // As many bytes as there can be.
    due("book 1 0" + " ".repeat(392), 0);
    ErrataRow row = Check.row("book 2 9;letter 1 1;habit 1 6;letter 2 3;letter 1 4;hangs 2 1;hangs 2 0;hangs 2 1;habit 0 5");
    C.due("quarter", row.count(0), 2);
    C.due("editions that come round", row.count(1), 2);
    C.due("letters", row.count(2), 3);
    C.due("edition", row.count(5), 0);
    C.due("purse", row.count(8), 9);
    C.due("owed", row.count(9), 0);
    int[][] letters = {{1, 1, 0, 0}, {2, 3, 0, 0}, {1, 4, 0, 3}};
    int[][] habits = {{1, 6}, {0, 5}};
    for (int i = 0; i < 3; i++) {
      for (int what = 0; what < 4; what++) {
        C.due("letter(" + i + ", " + what + ")", row.letter(i, what), letters[i][what]);
      }
    }
    for (int i = 0; i < 2; i++) {
      C.due("habit(" + i + ", 0)", row.habit(i, 0), habits[i][0]);
      C.due("habit(" + i + ", 1)", row.habit(i, 1), habits[i][1]);
    }
  }

  private static void bytesAndWordsThatCannotStand() {
    fault("", 0, 0);
    fault("   ", 3, 0);
    fault("book", 4, 0);
    fault("book ", 5, 0);
    fault("book 1", 6, 0);
    fault("book 1 0;", 9, 0);
    fault("book 1 0;  ", 11, 0);
    fault("book 1 0;;letter 1 1", 9, 0);
    fault(";book 1 0", 0, 0);
    fault("book 1 0 1", 9, 0);
    fault("books 1 0", 0, 0);
    fault("bookz 1 0", 0, 0);
    fault("abook 1 0", 0, 0);
    fault("boo 1 0", 0, 0);
    fault("b", 0, 0);
    fault("Book 1 0", 0, 0);
    fault("1", 0, 0);
    fault("book 1 -1", 7, 0);
    fault("book 1,0", 6, 0);
    fault("book one 0", 5, 0);
    fault("book 1 0;mend 1", 9, 0);
    fault("book 1 0;letter 1 1letter 2 2", 19, 0);
    fault("book 1 0;letter 1", 17, 0);
    fault("book 1 0;letter ;", 16, 0);
    fault("book 1 0;letters 1 1", 9, 0);
    fault("book 1 0;letter 1 1;hangs", 25, 0);
    fault("book 1 0\t", 8, 0);
    fault("book 1 0\0", 8, 0);
    fault("book\u00e9 1 0", 4, 0);
    fault("book 1 0\u00a0", 8, 0);
    fault("book 1 0;[", 9, 0);
    fault("book 1 <= 0", 7, 0);
  }

  private static void numbersNotAsTold() {
    fault("book 0 0", 5, 1);
    fault("book 10 0", 5, 1);
    fault("book 1 1000", 7, 1);
    fault("book 10", 5, 1);
    fault("book 000001 0", 5, 1);
    fault("book 1 000000", 7, 1);
    fault("book 99999 0", 5, 1);
    fault("book 99999999999999999999 0", 5, 1);
    fault("book 4294967297 0", 5, 1);
    fault("book 1 0;letter 8 0", 16, 1);
    fault("book 1 0;letter 0 8", 18, 1);
    fault("book 1 0;letter 0 000000", 18, 1);
    fault("book 1 0;habit 8 0", 15, 1);
    fault("book 1 0;habit 0 8", 17, 1);
    fault("book 1 0;hangs 0 1", 15, 1);
    fault("book 1 0;letter 0 0;hangs 0 0", 28, 1);
    fault("book 1 0;letter 0 0;hangs 0 1", 28, 1);
    fault("book 1 0;letter 0 0;hangs 1 0", 26, 1);
    fault("book 1 0;letter 0 0;letter 0 0;hangs 1 1", 39, 1);
    // A letter that is told only later was not told.
    fault("book 1 0;letter 0 0;hangs 0 1;letter 0 0", 28, 1);
    fault("book 1 0;letter 0 0;letter 0 0;hangs 0 000001", 39, 1);
  }

  private static void tooMany() {
    fault("letter 0 0", 0, 4);
    fault(" habit 0 0", 1, 4);
    fault("hangs 0 0;book 1 0", 0, 4);
    fault("book 1 0;book 1 0", 9, 4);
    fault("book 1 0; letter 1 1 ; book", 23, 4);
    fault("book 1 0" + Check.repeated(";letter 7 0", "", 11), 119, 4);
    fault("book 1 0" + Check.repeated(";habit 7 0", "", 13), 129, 4);
    String forty = "book 1 0;letter 0 0;letter 0 0" + Check.repeated(";hangs0 1", "", 37);
    fault(forty + ";hangs0 1", 364, 4);
    fault(forty + ";  habit", 366, 4);
    fault(forty + ";book", 364, 4);
  }

  private static void theLeastOfOnePlace() {
    String forty = "book 1 0;letter 0 0;letter 0 0" + Check.repeated(";hangs0 1", "", 37);
    fault(forty + ";x", 364, 0);
    fault(forty + ";", 364, 0);
    fault(forty + ";7", 364, 0);
    fault("book 1 0 123456", 9, 0);
    fault("book 1 0;123456", 9, 0);
    // The first along the text, not the least.
    fault("book 0 x", 5, 1);
    fault("letter x", 0, 4);
  }

  private static void aNewBook() {
    ErrataRow row = Check.row("book 1 5;letter 0 1;letter 0 0;habit 3 3;habit 4 4;hangs 0 1", "mend 1");
    row.seed(77);
    row.edition();
    row.fill(3);
    row.note(1, 0, 1);
    row.set(1, 3);
    C.due("a second book", Check.book(row, "book 3 7;letter 6 5"), 1);
    int[] want = {3, 1, 1, 1, 0, 0, 1, 1, 7, 0, 0, 0, 77, 0};
    for (int what = 0; what <= 13; what++) {
      C.due("count(" + what + ") of a second book", row.count(what), want[what]);
    }
    C.due("undo", row.undo(), -1);
    C.due("habit(0, 0)", row.habit(0, 0), 0);
    C.due("habit(0, 1)", row.habit(0, 1), 0);
    C.due("habit(1, 0)", row.habit(1, 0), -1);
    C.due("letter(0, 2)", row.letter(0, 2), 0);
    C.due("letter(0, 3)", row.letter(0, 3), 0);
    C.due("letter(1, 0)", row.letter(1, 0), -1);
    // What was told in the first book is not there again in a longer one.
    C.due("a third book", Check.book(row, "book 3 7;letter 6 5;letter 1 1"), 2);
    C.due("hangs", row.letter(0, 3), 0);
    C.due("put", row.letter(1, 0), 1);
  }

  private static void aFaultyBook() {
    ErrataRow row = Check.row("book 1 5;letter 0 1;letter 0 0;habit 3 3;habit 4 4;hangs 0 1", "mend 1");
    row.seed(77);
    row.edition();
    row.fill(3);
    row.note(1, 0, 1);
    row.set(1, 3);
    int[] want = new int[14];
    for (int what = 0; what <= 13; what++) {
      want[what] = row.count(what);
    }
    C.due("a faulty book", Check.book(row, "book 3 7;letter 6 5;"), Check.fault(20, 0));
    for (int what = 0; what <= 13; what++) {
      C.due("count(" + what + ") behind a faulty book", row.count(what), want[what]);
    }
    C.due("letter(0, 1)", row.letter(0, 1), 1);
    C.due("habit(1, 1)", row.habit(1, 1), 4);
    C.due("the tape is empty", row.count(13), 0);
    C.due("undo", row.undo(), 2);
    C.due("put again", row.letter(1, 0), 0);
  }
}
