/** Promises 36 (image) and 37 (back). */
public final class ImagesTest {
  private static final Check C = new Check();
  private static final String BOOK = "book 2 9;letter 1 1;letter 2 3;letter 1 4;letter 5 5;habit 1 6;habit 0 0;hangs 2 1";

  public static void main(String[] args) {
    numbers();
    allIsAsItWas();
    theBookToo();
    withoutABook();
    C.close();
  }

  private static void numbers() {
    ErrataRow row = Check.row(BOOK);
    C.due("back(0), never made", row.back(0), -1);
    C.due("image(4)", row.image(4), -1);
    C.due("image(-1)", row.image(-1), -1);
    C.due("back(4)", row.back(4), -1);
    C.due("back(-1)", row.back(-1), -1);
    for (int k = 0; k < 4; k++) {
      C.due("image(" + k + ")", row.image(k), k);
      row.edition();
    }
    C.due("acts stay by an image", row.count(11), 4);
    for (int k = 3; k >= 0; k--) {
      C.due("back(" + k + ")", row.back(k), k);
      C.due("edition", row.count(5), k);
      C.due("acts", row.count(11), 0);
    }
    C.due("back(2) again", row.back(2), 2);
    C.due("image(0) anew", row.image(0), 2);
    row.edition();
    C.due("back(0)", row.back(0), 2);
    C.due("back(1), as before", row.back(1), 1);
  }

  private static void allIsAsItWas() {
    ErrataRow row = Check.row(BOOK, "mend 1");
    row.edition();
    row.edition();
    row.hang(3, 0);
    row.note(0, 0, 6);
    row.seed(9);
    int[] counts = new int[14];
    for (int what = 0; what < 14; what++) {
      counts[what] = row.count(what);
    }
    int[] letters = new int[16];
    for (int i = 0; i < 16; i++) {
      letters[i] = row.letter(i / 4, i % 4);
    }
    C.due("image(3)", row.image(3), 2);
    row.edition();
    row.set(3, 0);
    row.hang(3, 0);
    row.fill(50);
    row.note(0, 0, 1);
    row.note(0, 0, 2);
    row.seed(10);
    row.force(-1);
    Check.rule(row, "mend 2");
    row.feed(1, 2, 3, 4, 5);
    C.due("back(3)", row.back(3), 2);
    // The rules and the tape are as they are; nothing can be undone.
    counts[3] = 2;
    counts[11] = 0;
    counts[13] = 20;
    for (int what = 0; what < 14; what++) {
      C.due("count(" + what + ") behind back", row.count(what), counts[what]);
    }
    for (int i = 0; i < 16; i++) {
      C.due("letter(" + i / 4 + ", " + i % 4 + ") behind back", row.letter(i / 4, i % 4), letters[i]);
    }
    C.due("undo", row.undo(), -1);
    C.due("the note that was", row.putAs(0), 2);
    // What is done then does not change the image.
    row.set(3, 0);
    row.note(-1, 0, 0);
    row.note(7, 1, 5);
    C.due("back(3)", row.back(3), 2);
    C.due("put", row.letter(3, 0), 5);
    C.due("notes", row.count(10), 1);
    C.due("the note that was, again", row.putAs(0), 2);
    row.note(-1, 0, 0);
    row.note(0, 1, 6);
    row.back(3);
    C.due("its letter", row.putAs(0), 2);
    row.note(-1, 0, 0);
    row.note(0, 0, 1);
    row.back(3);
    C.due("its put", row.putAs(0), 2);
    row.note(-1, 0, 0);
    row.note(1, 0, 6);
    row.back(3);
    C.due("its edition", row.putAs(0), 2);
  }

  private static void theBookToo() {
    ErrataRow row = Check.row(BOOK);
    row.edition();
    row.image(0);
    Check.book(row, "book 9 8;letter 3 4");
    C.due("letters", row.count(2), 1);
    row.image(1);
    C.due("back(0)", row.back(0), 1);
    C.due("letters", row.count(2), 4);
    C.due("quarter", row.count(0), 2);
    C.due("habit", row.habit(0, 1), 6);
    C.due("meant", row.letter(1, 1), 3);
    // Its begin is as it was told: letter 0, which was right, is put as 6 by habit in edition 0.
    row.note(0, 0, 6);
    C.due("ruled", row.ruled(0), 1);
    C.due("back(1)", row.back(1), 0);
    C.due("meant", row.letter(0, 1), 4);
    C.due("notes", row.count(10), 0);
  }

  private static void withoutABook() {
    ErrataRow row = new ErrataRow();
    C.due("image(0) of no book", row.image(0), 0);
    Check.book(row, BOOK);
    row.edition();
    C.due("back(0)", row.back(0), 0);
    C.due("no book", row.edition(), -1);
    C.due("letters", row.count(2), 0);
    C.due("quarter", row.count(0), 0);
    C.due("editions that come round", row.count(1), 0);
    C.due("purse", row.count(8), 0);
    C.due("wrong", row.count(6), 0);
    C.due("undo", row.undo(), -1);
  }
}
