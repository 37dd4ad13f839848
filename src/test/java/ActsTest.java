/** Promises 9 (edition), 10 (set), 11 (mend), 12 (hang), 13 (fill), 14 (undo). */
public final class ActsTest {
  private static final Check C = new Check();
  private static final String BOOK = "book 2 9;letter 1 1;letter 2 3;letter 1 4;letter 5 5;habit 1 6;habit 0 0;hangs 2 1";

  public static void main(String[] args) {
    editions();
    habitsInEditions();
    owedAtMost();
    editionsAtMost();
    withoutABook();
    sets();
    mends();
    hangs();
    fills();
    undoes();
    undoesAfterBook();
    C.close();
  }

  private static void puts(String when, ErrataRow row, int... want) {
    for (int i = 0; i < want.length; i++) {
      C.due(when + ": put of " + i, row.letter(i, 0), want[i]);
    }
  }

  private static void editions() {
    ErrataRow row = Check.row(BOOK);
    int[] mended = {1, 0, 2, 0, -2, 0, -2};
    int[] wrong = {5, 4, 1, 0, 1, 0, 1};
    int[] loose = {5, 4, 1, 0, 1, 0, 1};
    int[] purse = {5, 3, 1, 1, 1, 1, 1};
    int[] owed = {0, 0, 0, 0, 1, 1, 2};
    for (int i = 0; i < mended.length; i++) {
      C.due("edition " + i, row.edition(), mended[i]);
      C.due("wrong behind " + i, row.count(6), wrong[i]);
      C.due("loose behind " + i, row.count(7), loose[i]);
      C.due("purse behind " + i, row.count(8), purse[i]);
      C.due("owed behind " + i, row.count(9), owed[i]);
      C.due("edition then", row.count(5), i + 1);
      C.due("acts", row.count(11), i + 1);
    }
    C.due("paid of 0", row.letter(0, 2), 2);
    C.due("paid of 1", row.letter(1, 2), 0);
    C.due("paid of 2", row.letter(2, 2), 2);
    puts("behind edition 6", row, 6, 3, 4, 5);
    // The purse is enough for the first one by numbers alone.
    row = Check.row("book 3 5;letter 0 1;letter 0 1;letter 0 1", "mend 0");
    C.due("edition", row.edition(), -2);
    C.due("paid of 0", row.letter(0, 2), 1);
    C.due("paid of 1", row.letter(1, 2), 0);
    C.due("purse", row.count(8), 2);
    C.due("owed", row.count(9), 2);
    row = Check.row("book 3 6;letter 0 1;letter 0 1;letter 0 1", "mend 0");
    row.edition();
    C.due("paid of 1, with just enough", row.letter(1, 2), 1);
    C.due("purse", row.count(8), 0);
    C.due("a book without letters", Check.row("book 1 0").edition(), -2);
    // Two that hang on one another are never loose.
    row = Check.row("book 1 0;letter 0 1;letter 0 1;hangs 0 1;hangs 1 0");
    C.due("none is loose", row.edition(), -2);
  }

  private static void habitsInEditions() {
    // The letter that was mended is not the one that is put otherwise, though it is put so.
    ErrataRow row = Check.row("book 1 9;letter 0 1;letter 1 1;letter 1 1;habit 1 2");
    C.due("edition", row.edition(), 0);
    puts("the mended one stays", row, 1, 2, 1);
    // Only the least one; a wrong one can be put right, and a right one wrong.
    row = Check.row("book 1 9;letter 3 4;letter 3 3;habit 3 4", "mend 0");
    row.edition();
    puts("put right by habit", row, 4, 3);
    C.due("nobody was wrong", row.count(8), 9);
    row.edition();
    puts("then the next one", row, 4, 4);
    // Three editions that come round.
    row = Check.row("book 1 99;letter 0 0;habit 0 1;habit 1 2;habit 2 3", "mend 0");
    row.edition();
    puts("edition 0", row, 1);
    row.edition();
    puts("edition 1", row, 2);
    row.edition();
    puts("edition 2", row, 3);
    row.set(0, 0);
    row.edition();
    puts("edition 3 is as 0", row, 1);
    // Without a habit nothing is put otherwise.
    row = Check.row("book 1 99;letter 0 0;letter 1 1");
    row.edition();
    puts("no habit", row, 0, 1);
  }

  private static void owedAtMost() {
    ErrataRow row = Check.row("book 1 0" + Check.repeated(";letter 0 1", "", 10), "mend 0");
    for (int i = 1; i <= 102; i++) {
      row.edition();
      C.due("owed behind " + i, row.count(9), Math.min(10 * i, 999));
    }
    C.due("acts", row.count(11), 20);
  }

  private static void editionsAtMost() {
    // Beyond 512 calls the document promises nothing; this row stops all the same.
    ErrataRow row = Check.row("book 1 0;letter 0 0");
    for (int i = 0; i < 999; i++) {
      row.edition();
    }
    C.due("edition", row.count(5), 999);
    C.due("one more", row.edition(), -1);
    C.due("edition", row.count(5), 999);
    C.due("asked editions go on", row.allRight(), 999);
    C.due("asked editions go on", row.ahead(0, 100, 1), 0);
  }

  private static void withoutABook() {
    ErrataRow row = new ErrataRow();
    C.due("edition", row.edition(), -1);
    C.due("set", row.set(0, 0), -1);
    C.due("mend", row.mend(0), -1);
    C.due("hang", row.hang(0, 1), -1);
    C.due("fill", row.fill(1), -1);
    C.due("undo", row.undo(), -1);
    C.due("acts", row.count(11), 0);
    C.due("edition", row.count(5), 0);
    C.due("purse", row.count(8), 0);
  }

  private static void sets() {
    ErrataRow row = Check.row(BOOK);
    C.due("set(0, 7)", row.set(0, 7), 1);
    C.due("set(0, 7) again", row.set(0, 7), -1);
    C.due("set(0, 0)", row.set(0, 0), 7);
    C.due("set(3, 4)", row.set(3, 4), 5);
    C.due("set(0, 8)", row.set(0, 8), -1);
    C.due("set(0, -1)", row.set(0, -1), -1);
    C.due("set(4, 1)", row.set(4, 1), -1);
    C.due("set(-1, 1)", row.set(-1, 1), -1);
    C.due("acts", row.count(11), 3);
    puts("then", row, 0, 2, 1, 4);
    C.due("wrong", row.count(6), 15);
    C.due("edition", row.count(5), 0);
    C.due("purse", row.count(8), 9);
  }

  private static void mends() {
    ErrataRow row = Check.row(BOOK);
    C.due("mend(0), which is right", row.mend(0), -1);
    C.due("mend(2), which hangs", row.mend(2), -1);
    C.due("mend(4)", row.mend(4), -1);
    C.due("mend(-1)", row.mend(-1), -1);
    C.due("acts", row.count(11), 0);
    C.due("mend(1)", row.mend(1), 1);
    C.due("mend(2), which is loose now", row.mend(2), 0);
    C.due("mend(2) again", row.mend(2), -1);
    C.due("acts", row.count(11), 2);
    puts("then", row, 1, 3, 4, 5);
    C.due("edition", row.count(5), 0);
  }

  private static void hangs() {
    ErrataRow row = Check.row(BOOK);
    C.due("hang(2, 1), no more", row.hang(2, 1), 0);
    C.due("loose", row.count(7), 6);
    C.due("hang(2, 1), again", row.hang(2, 1), 1);
    C.due("loose", row.count(7), 2);
    C.due("hang(1, 2)", row.hang(1, 2), 1);
    C.due("loose", row.count(7), 0);
    C.due("hangs", row.letter(1, 3), 4);
    C.due("hang(1, 1)", row.hang(1, 1), -1);
    C.due("hang(1, 4)", row.hang(1, 4), -1);
    C.due("hang(4, 1)", row.hang(4, 1), -1);
    C.due("hang(-1, 1)", row.hang(-1, 1), -1);
    C.due("hang(1, -1)", row.hang(1, -1), -1);
    C.due("hang(4, 4)", row.hang(4, 4), -1);
    C.due("acts", row.count(11), 3);
    // On a right one it may hang and be loose.
    C.due("hang(1, 2), no more", row.hang(1, 2), 0);
    C.due("hang(1, 3)", row.hang(1, 3), 1);
    C.due("loose", row.count(7), 2);
  }

  private static void fills() {
    ErrataRow row = Check.row(BOOK);
    C.due("fill(1)", row.fill(1), 10);
    C.due("fill(99)", row.fill(99), 109);
    C.due("fill(0)", row.fill(0), -1);
    C.due("fill(100)", row.fill(100), -1);
    C.due("fill(-1)", row.fill(-1), -1);
    C.due("purse", row.count(8), 109);
    C.due("acts", row.count(11), 2);
    row = Check.row("book 1 950;letter 0 0");
    C.due("fill(49)", row.fill(49), 999);
    C.due("fill(1) of a full purse", row.fill(1), 999);
    C.due("undo", row.undo(), 1);
    C.due("undo", row.undo(), 0);
    C.due("purse", row.count(8), 950);
    C.due("fill(99)", row.fill(99), 999);
  }

  private static void undoes() {
    ErrataRow row = Check.row(BOOK, "mend 1");
    row.force(-1);
    row.edition();
    row.set(3, 0);
    row.mend(0);
    row.hang(3, 2);
    row.fill(7);
    // Neither of these is an act, and none of it is undone.
    row.force(0);
    row.seed(5);
    row.note(1, 1, 1);
    row.set(3, 0);
    C.due("acts", row.count(11), 5);
    C.due("undo fill", row.undo(), 4);
    C.due("purse", row.count(8), 5);
    C.due("hangs", row.letter(3, 3), 4);
    C.due("undo hang", row.undo(), 3);
    C.due("hangs", row.letter(3, 3), 0);
    C.due("put of 0", row.letter(0, 0), 1);
    C.due("undo mend", row.undo(), 2);
    C.due("put of 0", row.letter(0, 0), 6);
    C.due("undo set", row.undo(), 1);
    C.due("put of 3", row.letter(3, 0), 5);
    C.due("edition", row.count(5), 1);
    C.due("undo edition", row.undo(), 0);
    C.due("edition", row.count(5), 0);
    puts("as at first", row, 1, 2, 1, 5);
    C.due("paid", row.letter(0, 2), 0);
    C.due("purse", row.count(8), 9);
    C.due("owed", row.count(9), 0);
    C.due("undo", row.undo(), -1);
    C.due("in force", row.count(4), 0);
    C.due("x", row.count(12), 5);
    C.due("notes", row.count(10), 1);
    // Twenty at most: the oldest ones can't be undone.
    for (int i = 1; i <= 23; i++) {
      C.due("fill " + i, row.fill(1), 9 + i);
      C.due("acts", row.count(11), Math.min(i, 20));
    }
    for (int i = 19; i >= 0; i--) {
      C.due("undo", row.undo(), i);
      C.due("purse", row.count(8), 12 + i);
    }
    C.due("undo", row.undo(), -1);
    C.due("purse", row.count(8), 12);
    row.fill(1);
    C.due("undo", row.undo(), 0);
  }

  private static void undoesAfterBook() {
    ErrataRow row = Check.row(BOOK);
    row.edition();
    row.edition();
    Check.book(row, BOOK);
    C.due("undo behind a book", row.undo(), -1);
    C.due("edition", row.count(5), 0);
  }
}
