/** The boundaries of promises 7 (letter), 8 (habit) and 35 (count). */
public final class LookupEdgesTest {
  private static final Check C = new Check();
  private static final int LEAST = Integer.MIN_VALUE;
  private static final int MOST = Integer.MAX_VALUE;

  public static void main(String[] args) {
    letters();
    lettersAsTheyAreNow();
    lettersRefused();
    habits();
    habitsRefused();
    countsEmpty();
    countsFull();
    countsAlongTheWay();
    countsRefused();
    C.close();
  }

  private static void letters() {
    C.says(7, "Of a LETTER what 0: PUT, 1: MEANT, 2: how often it was PAID, 3: LETTERS on which it HANGS, as bits.");
    StringBuilder book = new StringBuilder("book 1 0");
    for (int i = 0; i < 10; i++) {
      book.append(";letter ").append(i % 8).append(' ').append(7 - i % 8);
    }
    for (int i = 0; i < 10; i++) {
      book.append(";hangs ").append(i).append(' ').append(9 - i);
    }
    ErrataRow row = Check.row(book.toString());
    for (int i = 0; i < 10; i++) {
      C.due("letter(" + i + ", 0)", row.letter(i, 0), i % 8);
      C.due("letter(" + i + ", 1)", row.letter(i, 1), 7 - i % 8);
      C.due("letter(" + i + ", 2)", row.letter(i, 2), 0);
      C.due("letter(" + i + ", 3)", row.letter(i, 3), 1 << 9 - i);
    }
    // On all others, and on none.
    for (int i = 1; i <= 8; i++) {
      row.hang(0, i);
    }
    row.hang(9, 0);
    C.due("letter(0, 3) on all others", row.letter(0, 3), 1022);
    C.due("letter(9, 3) on none", row.letter(9, 3), 0);
  }

  private static void lettersAsTheyAreNow() {
    C.says(7, "Of a LETTER what 0: PUT, 1: MEANT, 2: how often it was PAID");
    // By a purse of 25 quarters ten are paid twice, then five of them once more.
    ErrataRow row = Check.row("book 2 51" + ";letter 3 4".repeat(10), "mend 0");
    int[][] paid = {{0, 0}, {1, 1}, {2, 2}, {3, 2}, {3, 2}};
    for (int edition = 0; edition < 5; edition++) {
      for (int i = 0; i < 10; i++) {
        C.due("in " + edition + ": letter(" + i + ", 2)", row.letter(i, 2), paid[edition][i < 5 ? 0 : 1]);
      }
      row.edition();
    }
    row.set(9, 0);
    C.due("put otherwise: letter(9, 0)", row.letter(9, 0), 0);
    C.due("put otherwise: letter(9, 1)", row.letter(9, 1), 4);
    row.mend(9);
    C.due("mended: letter(9, 0)", row.letter(9, 0), 4);
    C.due("mended: letter(9, 2)", row.letter(9, 2), 2);
  }

  private static void lettersRefused() {
    C.says(7, "NONE without these.");
    int[] letters = {-1, 5, 6, 9, 10, 32, LEAST, MOST};
    for (int letter : letters) {
      for (int what = 0; what <= 3; what++) {
        C.due("letter(" + letter + ", " + what + ") of five", Twins.rich().letter(letter, what), -1);
      }
      Twins.nothingHappens(C, "letter(" + letter + ", 0) of five", Twins::rich, row -> row.letter(letter, 0), -1);
    }
    int[] whats = {-1, 4, 5, LEAST, MOST};
    for (int what : whats) {
      Twins.nothingHappens(C, "letter(0, " + what + ")", Twins::rich, row -> row.letter(0, what), -1);
      C.due("letter(4, " + what + ")", Twins.rich().letter(4, what), -1);
    }
    // One too many of ten, of one, of none, and without a book.
    for (int what = 0; what <= 3; what++) {
      C.due("letter(10, " + what + ") of ten", Check.row("book 1 0" + ";letter 0 0".repeat(10)).letter(10, what), -1);
      C.due("letter(1, " + what + ") of one", Check.row("book 1 0;letter 0 0").letter(1, what), -1);
      C.due("letter(0, " + what + ") of none", Check.row("book 1 0").letter(0, what), -1);
      C.due("letter(0, " + what + ") without a book", new ErrataRow().letter(0, what), -1);
    }
    // The letters of a book that is no more.
    ErrataRow row = Check.row("book 1 0" + ";letter 3 4".repeat(10));
    Check.book(row, "book 1 0;letter 5 6;letter 5 6");
    C.due("letter(1, 0) of two", row.letter(1, 0), 5);
    C.due("letter(2, 0) of two, which were ten", row.letter(2, 0), -1);
  }

  private static void habits() {
    C.says(8, "Of the habit of an EDITION that comes round what 0: FROM, 1: TO.");
    StringBuilder book = new StringBuilder("book 1 0");
    for (int i = 0; i < 12; i++) {
      book.append(";habit ").append(i % 8).append(' ').append(7 - i % 7);
    }
    ErrataRow row = Check.row(book.toString());
    for (int i = 0; i < 12; i++) {
      C.due("habit(" + i + ", 0)", row.habit(i, 0), i % 8);
      C.due("habit(" + i + ", 1)", row.habit(i, 1), 7 - i % 7);
    }
    // It is asked by its own number, in whatever edition.
    for (int edition = 0; edition < 13; edition++) {
      row.edition();
      C.due("habit(0, 1)", row.habit(0, 1), 7);
      C.due("habit(11, 0)", row.habit(11, 0), 3);
    }
    row = Check.row("book 1 0");
    C.due("none told: habit(0, 0)", row.habit(0, 0), 0);
    C.due("none told: habit(0, 1)", row.habit(0, 1), 0);
  }

  private static void habitsRefused() {
    C.says(8, "NONE without these.");
    int[] editions = {-1, 3, 4, 11, 12, LEAST, MOST};
    for (int edition : editions) {
      Twins.nothingHappens(C, "habit(" + edition + ", 0) of three", Twins::rich, row -> row.habit(edition, 0), -1);
      Twins.nothingHappens(C, "habit(" + edition + ", 1) of three", Twins::rich, row -> row.habit(edition, 1), -1);
    }
    C.due("habit(2, 1) of three", Twins.rich().habit(2, 1), 2);
    int[] whats = {-1, 2, 3, LEAST, MOST};
    for (int what : whats) {
      Twins.nothingHappens(C, "habit(0, " + what + ")", Twins::rich, row -> row.habit(0, what), -1);
      C.due("habit(2, " + what + ")", Twins.rich().habit(2, what), -1);
    }
    ErrataRow twelve = Check.row("book 1 0" + ";habit 5 6".repeat(12));
    ErrataRow one = Check.row("book 1 0;habit 5 6");
    ErrataRow none = Check.row("book 1 0;letter 5 6");
    for (int what = 0; what <= 1; what++) {
      C.due("habit(11, " + what + ") of twelve", twelve.habit(11, what), 5 + what);
      C.due("habit(12, " + what + ") of twelve", twelve.habit(12, what), -1);
      C.due("habit(0, " + what + ") of one", one.habit(0, what), 5 + what);
      C.due("habit(1, " + what + ") of one", one.habit(1, what), -1);
      C.due("habit(0, " + what + ") of none", none.habit(0, what), 0);
      C.due("habit(1, " + what + ") of none", none.habit(1, what), -1);
      C.due("habit(-1, " + what + ") of none", none.habit(-1, what), -1);
      C.due("habit(0, " + what + ") without a book", new ErrataRow().habit(0, what), -1);
    }
  }

  private static void dueCounts(String when, ErrataRow row, int... want) {
    for (int what = 0; what <= 13; what++) {
      C.due(when + ": count(" + what + ")", row.count(what), want[what]);
    }
  }

  private static void countsEmpty() {
    C.says(35, "What 0: QUARTER, 1: EDITIONS that come round (0 without a BOOK), 2: LETTERS, 3: RULES, 4: the RULE IN FORCE"
        + " (NONE), 5: EDITION, 6: WRONG LETTERS, as bits, 7: LOOSE ones, as bits, 8: the PURSE, 9: OWED, 10: NOTES, 11:"
        + " ACTS that can be UNDONE, 12: x, 13: bytes of the TAPE.");
    dueCounts("a new object", new ErrataRow(), 0, 0, 0, 0, -1, 0, 0, 0, 0, 0, 0, 0, 0, 0);
    dueCounts("the least book", Check.row("book 1 0"), 1, 1, 0, 0, -1, 0, 0, 0, 0, 0, 0, 0, 0, 0);
    ErrataRow row = new ErrataRow();
    Check.rule(row, "mend 1");
    dueCounts("a rule", row, 0, 0, 0, 1, -1, 0, 0, 0, 0, 0, 0, 0, 0, 0);
    row.force(0);
    dueCounts("in force", row, 0, 0, 0, 1, 0, 0, 0, 0, 0, 0, 0, 0, 0, 0);
  }

  private static void countsFull() {
    C.says(35, "What 0: QUARTER, 1: EDITIONS that come round (0 without a BOOK), 2: LETTERS, 3: RULES");
    ErrataRow row = Check.row("book 9 999" + ";letter 0 7".repeat(10) + ";habit 7 7".repeat(12), "mend 0", "mend 0", "mend 0",
        "mend 0", "mend 0", "mend 0");
    row.force(5);
    row.seed(2147483647);
    for (int i = 0; i < 11; i++) {
      row.note(60, 9, 7);
    }
    for (int i = 0; i < 21; i++) {
      row.hang(9, 8);
    }
    for (int i = 0; i < 21; i++) {
      row.feed(0, 0, 0, 0, 0);
    }
    dueCounts("full", row, 9, 12, 10, 6, 5, 0, 1023, 511, 999, 0, 10, 20, 2147483647, 400);
    // 111 times somebody is paid by 999; in 111 editions of ten that leaves 999 that are owed.
    for (int i = 0; i < 111; i++) {
      row.edition();
    }
    dueCounts("later", row, 9, 12, 10, 6, 5, 111, 1023, 511, 0, 999, 10, 20, 2147483647, 400);
  }

  private static void countsAlongTheWay() {
    C.says(35, "6: WRONG LETTERS, as bits, 7: LOOSE ones, as bits, 8: the PURSE, 9: OWED, 10: NOTES, 11: ACTS that can be"
        + " UNDONE, 12: x, 13: bytes of the TAPE.");
    ErrataRow row = Check.row("book 3 10;letter 0 1;letter 2 2;letter 0 1;letter 0 1;hangs 2 3;hangs 3 1", "mend 0");
    dueCounts("at first", row, 3, 1, 4, 1, 0, 0, 13, 9, 10, 0, 0, 0, 0, 0);
    row.edition();
    dueCounts("behind edition 0", row, 3, 1, 4, 1, 0, 1, 13, 9, 1, 0, 0, 1, 0, 0);
    row.edition();
    dueCounts("behind edition 1", row, 3, 1, 4, 1, 0, 2, 13, 9, 1, 3, 0, 2, 0, 0);
    row.set(1, 3);
    dueCounts("letter 1 is wrong", row, 3, 1, 4, 1, 0, 2, 15, 3, 1, 3, 0, 3, 0, 0);
    row.note(5, 1, 1);
    row.seed(1);
    row.force(-1);
    row.feed(0, 0, 0, 0, 0);
    row.end(19);
    dueCounts("a note, x, none in force and a tape", row, 3, 1, 4, 1, -1, 2, 15, 3, 1, 3, 1, 3, 1, 19);
  }

  private static void countsRefused() {
    C.says(35, "NONE for others.");
    int[] whats = {-1, -2, 14, 15, LEAST, MOST};
    for (int what : whats) {
      Twins.nothingHappens(C, "count(" + what + ")", Twins::rich, row -> row.count(what), -1);
      C.due("count(" + what + ") without a book", new ErrataRow().count(what), -1);
    }
    C.due("count(13) is the last", Twins.rich().count(13), 41);
    C.due("count(0) is the first", Twins.rich().count(0), 2);
  }
}
