/** The boundaries of what the Terms say of a BOOK and its FAULTS, and of promise 4 (book). */
public final class BookEdgesTest {
  private static final Check C = new Check();
  private static final String TWO = "book 1 0;letter 0 0;letter 0 0";
  private static final String FORTY = TWO + ";hangs0 1".repeat(37);
  private static final String TEN = "book 1 0" + ";letter 0 0".repeat(10);

  public static void main(String[] args) {
    bytes();
    clauses();
    pay();
    payOnceAndFirst();
    letters();
    habits();
    habitsOfEditions();
    hangs();
    lettersInOrder();
    withoutAHabit();
    atTheBegin();
    wrong();
    cannotStand();
    theEnd();
    eachByte();
    digits();
    tooMany();
    theFirstAlongTheText();
    theLeastOfOnePlace();
    aBookInPlaceOfAnother();
    aFaultyBook();
    C.close();
  }

  private static void bytes() {
    C.says(0, "A BOOK is a text of at most 400 bytes: CLAUSE { ; CLAUSE }");
    ErrataRow row = new ErrataRow();
    C.due("a book of 400 bytes", Check.book(row, TapeEdgesTest.bookOf(400)), 1);
    C.due("its last byte counts", row.letter(0, 1), 4);
    C.faultyBook("book 1 0" + " ".repeat(391) + "^x", 0);
    C.faultyBook("book 1 0" + " ".repeat(391) + ";^", 0);
    C.faultyBook("book 1 0" + " ".repeat(391) + "^5", 0);
    C.faultyBook("^", 0);
    C.dueBook("book 1 0", 0);
    C.faultyBook("book 1 0;^", 0);
    C.faultyBook("^;book 1 0", 0);
    C.faultyBook("book 1 0;^;letter 1 1", 0);
    C.dueBook("book 1 0;letter 1 1", 1);
    C.faultyBook("book 1 0 ^letter 1 1", 0);
  }

  private static void clauses() {
    C.says(0, "CLAUSE { ; CLAUSE }, 40 at most:");
    C.dueBook(TWO + ";hangs0 1".repeat(36), 2);
    C.dueBook(FORTY, 2);
    C.faultyBook(FORTY + ";^hangs0 1", 4);
    C.faultyBook(FORTY + ";^letter 0 0", 4);
    C.faultyBook(FORTY + ";^habit 0 0", 4);
    // All that there can be at once.
    ErrataRow row = new ErrataRow();
    String all = "book9 999" + ";letter7 6".repeat(10) + ";habit7 5".repeat(12) + ";hangs9 8".repeat(17);
    C.due("ten letters, twelve habits, forty clauses", Check.book(row, all), 10);
    C.due("letters", row.count(2), 10);
    C.due("editions that come round", row.count(1), 12);
    C.due("the last hangs", row.letter(9, 3), 256);
    C.faultyBook(all + ";^hangs9 8", 4);
  }

  private static void pay() {
    C.says(0, "book NUMBER NUMBER (QUARTER 1 to 9; PURSE 0 to 999;");
    C.faultyBook("book ^0 5", 1);
    C.faultyBook("book ^10 5", 1);
    C.faultyBook("book 5 ^1000", 1);
    int[][] taken = {{1, 0}, {9, 999}, {1, 999}, {9, 0}, {2, 1}, {8, 998}};
    for (int[] pay : taken) {
      ErrataRow row = new ErrataRow();
      C.due("book " + pay[0] + " " + pay[1], Check.book(row, "book " + pay[0] + " " + pay[1]), 0);
      C.due("quarter", row.count(0), pay[0]);
      C.due("purse", row.count(8), pay[1]);
    }
  }

  private static void payOnceAndFirst() {
    C.says(0, "once, the first CLAUSE)");
    C.faultyBook("book 1 0;^book 1 0", 4);
    C.faultyBook("book 1 0;letter 0 0;^book 1 0", 4);
    C.faultyBook(TWO + ";hangs0 1".repeat(36) + ";^book 1 0", 4);
    C.faultyBook("^letter 0 0;book 1 0", 4);
    C.faultyBook("^habit 0 0;book 1 0", 4);
    C.faultyBook("^hangs 0 1;book 1 0", 4);
    C.faultyBook("  ^letter", 4);
  }

  private static void letters() {
    C.says(0, "letter NUMBER NUMBER (PUT 0 to 7; MEANT 0 to 7)");
    for (int put = 0; put <= 7; put++) {
      ErrataRow row = Check.row("book 1 0;letter " + put + " " + (7 - put));
      C.due("put", row.letter(0, 0), put);
      C.due("meant", row.letter(0, 1), 7 - put);
    }
    C.faultyBook("book 1 0;letter ^8 0", 1);
    C.faultyBook("book 1 0;letter 0 ^8", 1);
    C.faultyBook("book 1 0;letter ^-1 0", 0);
    C.faultyBook("book 1 0;letter 0 ^-1", 0);
  }

  private static void habits() {
    C.says(0, "habit NUMBER NUMBER (FROM 0 to 7, TO 0 to 7,");
    for (int from = 0; from <= 7; from++) {
      ErrataRow row = Check.row("book 1 0;habit " + from + " " + (7 - from));
      C.due("from", row.habit(0, 0), from);
      C.due("to", row.habit(0, 1), 7 - from);
    }
    C.faultyBook("book 1 0;habit ^8 0", 1);
    C.faultyBook("book 1 0;habit 0 ^8", 1);
  }

  private static void habitsOfEditions() {
    C.says(0, "of the next EDITION that comes round, 12 at most)");
    StringBuilder text = new StringBuilder("book 1 0");
    for (int habits = 1; habits <= 12; habits++) {
      text.append(";habit ").append(habits % 8).append(' ').append(habits / 2);
      ErrataRow row = Check.row(text.toString());
      C.due("editions that come round", row.count(1), habits);
      for (int i = 1; i <= habits; i++) {
        C.due("from of " + (i - 1), row.habit(i - 1, 0), i % 8);
        C.due("to of " + (i - 1), row.habit(i - 1, 1), i / 2);
      }
      C.due("from of one more", row.habit(habits, 0), -1);
    }
    C.faultyBook(text + ";^habit 0 0", 4);
    C.dueBook(text + ";letter 0 0", 1);
  }

  private static void hangs() {
    C.says(0, "hangs NUMBER NUMBER (a LETTER that was told HANGS on another one that was; told already: nothing new).");
    C.faultyBook("book 1 0;hangs ^0 1", 1);
    C.faultyBook("book 1 0;letter 0 0;hangs ^1 0", 1);
    C.faultyBook("book 1 0;letter 0 0;hangs 0 ^1", 1);
    C.faultyBook("book 1 0;letter 0 0;hangs 0 ^0", 1);
    C.dueBook(TWO + ";hangs 0 1;hangs 1 0", 2);
    C.faultyBook(TWO + ";hangs ^2 0", 1);
    C.faultyBook(TWO + ";hangs 0 ^2", 1);
    C.faultyBook(TWO + ";hangs 0 ^0", 1);
    C.faultyBook(TWO + ";hangs 1 ^1", 1);
    C.faultyBook(TWO + ";hangs 1 ^2;letter 0 0", 1);
    C.dueBook(TWO + ";letter 0 0;hangs 1 2", 3);
    C.dueBook(TEN + ";hangs 9 0;hangs 0 9", 10);
    C.faultyBook(TEN + ";hangs ^10 0", 1);
    C.faultyBook(TEN + ";hangs 0 ^10", 1);
    C.faultyBook(TEN + ";hangs 9 ^9", 1);
    ErrataRow row = Check.row(TWO + ";hangs 0 1;hangs 0 1");
    C.due("told twice, it still hangs", row.letter(0, 3), 2);
    C.due("the other one does not", row.letter(1, 3), 0);
    row = Check.row(TEN + ";hangs 9 0;hangs 0 9;hangs 0 8;hangs 0 9");
    C.due("letter 9 on 0", row.letter(9, 3), 1);
    C.due("letter 0 on 8 and 9", row.letter(0, 3), 768);
  }

  private static void lettersInOrder() {
    C.says(0, "LETTERS 0 to 9, in the order told.");
    StringBuilder text = new StringBuilder("book 1 0");
    for (int letters = 1; letters <= 10; letters++) {
      text.append(";letter ").append(letters % 8).append(' ').append(letters / 2);
      ErrataRow row = Check.row(text.toString());
      C.due("letters", row.count(2), letters);
      for (int i = 1; i <= letters; i++) {
        C.due("put of " + (i - 1), row.letter(i - 1, 0), i % 8);
        C.due("meant of " + (i - 1), row.letter(i - 1, 1), i / 2);
      }
      C.due("put of one more", row.letter(letters, 0), -1);
    }
    C.faultyBook(text + ";^letter 0 0", 4);
  }

  private static void withoutAHabit() {
    C.says(0, "Without a habit one EDITION comes round, of FROM 0, TO 0.");
    ErrataRow row = Check.row("book 1 9;letter 0 0;letter 1 1");
    C.due("editions that come round", row.count(1), 1);
    C.due("from", row.habit(0, 0), 0);
    C.due("to", row.habit(0, 1), 0);
    C.due("from of 1", row.habit(1, 0), -1);
    row.edition();
    C.due("letter 0 stays", row.letter(0, 0), 0);
    row = Check.row("book 1 9;letter 1 2", "mend 1 if from = 0 and to = 0");
    C.due("its words are 0 and 0", row.edition(), 0);
    row = Check.row("book 1 9;habit 0 0");
    C.due("one habit told: editions that come round", row.count(1), 1);
    // No habit of the book that there was.
    row = Check.row("book 1 9;letter 1 1;habit 1 2;habit 2 3");
    Check.book(row, "book 1 9;letter 1 1");
    row.edition();
    C.due("no habit any more", row.letter(0, 0), 1);
    Check.book(row, "book 1 9;letter 0 0;letter 1 1;habit 0 5;habit 1 6");
    Check.book(row, "book 1 9;letter 0 0;letter 1 1");
    C.due("editions that come round", row.count(1), 1);
    C.due("from", row.habit(0, 0), 0);
    C.due("to", row.habit(0, 1), 0);
    row.edition();
    row.edition();
    C.due("letter 0 stays", row.letter(0, 0), 0);
    C.due("letter 1 stays", row.letter(1, 0), 1);
  }

  private static void atTheBegin() {
    C.says(0, "It is EDITION 0; nobody was PAID, nothing is OWED.");
    ErrataRow row = Check.row("book 1 5" + ";letter 0 1".repeat(10), "mend 0");
    for (int i = 0; i < 3; i++) {
      row.edition();
    }
    C.due("edition", row.count(5), 3);
    C.due("owed", row.count(9), 25);
    C.due("paid", row.letter(4, 2), 1);
    Check.book(row, "book 1 5" + ";letter 0 1".repeat(10));
    C.due("edition", row.count(5), 0);
    C.due("owed", row.count(9), 0);
    C.due("purse", row.count(8), 5);
    for (int i = 0; i < 10; i++) {
      C.due("paid of " + i, row.letter(i, 2), 0);
    }
  }

  private static void wrong() {
    C.says(0, "A LETTER is WRONG, if it is not PUT as it is MEANT.");
    for (int put = 0; put <= 7; put++) {
      for (int meant = 0; meant <= 7; meant++) {
        ErrataRow row = Check.row("book 1 0;letter 3 3;letter " + put + " " + meant);
        C.due("wrong of " + put + " " + meant, row.count(6), put == meant ? 0 : 2);
      }
    }
    C.due("all ten", Check.row("book 1 0" + ";letter 0 7".repeat(10)).count(6), 1023);
    C.due("none of ten", Check.row(TEN).count(6), 0);
  }

  private static void cannotStand() {
    C.says(0, "0 a byte or WORD that can't stand there, or the end (behind the last byte);");
    C.faultyBook("^books 1 0", 0);
    C.faultyBook("^boo 1 0", 0);
    C.faultyBook("^bookletter 1 0", 0);
    C.faultyBook("^mend 1", 0);
    C.faultyBook("^put 1 0", 0);
    C.faultyBook("^5 1 0", 0);
    C.faultyBook("book ^book 1 0", 0);
    C.faultyBook("book 1 ^letter 0 0", 0);
    C.faultyBook("book 1^;letter 0 0", 0);
    C.faultyBook("book 1 0 ^0", 0);
    C.faultyBook("book 1 0^letter 0 0", 0);
    C.faultyBook("book 1 0;^mend 1", 0);
    C.faultyBook("book 1 0;^letters 0 0", 0);
    C.faultyBook("book 1 0;^lette 0 0", 0);
    C.faultyBook("book 1 0;letter 0^;letter 0 0", 0);
    C.faultyBook("book 1 0;letter 0 0 ^0", 0);
    C.faultyBook("book 1 0;habit 0^;habit 0 0", 0);
    C.faultyBook("book 1 0;habit 0 0 ^0", 0);
    C.faultyBook(TWO + ";hangs 0^;hangs 0 1", 0);
    C.faultyBook(TWO + ";hangs 0 1 ^0", 0);
    C.faultyBook(TWO + ";hangs ^letter 0", 0);
  }

  private static void theEnd() {
    C.says(0, "or the end (behind the last byte);");
    String text = "book 1 0;letter 2 3 ";
    int[] places = {0, 0, 0, 0, 4, 5, 6, 7, -1, 9, 9, 9, 9, 9, 9, 15, 16, 17, 18, -1, -1};
    int[] letters = {0, 0, 0, 0, 0, 0, 0, 0, 0, 0, 0, 0, 0, 0, 0, 0, 0, 0, 0, 1, 1};
    for (int bytes = 0; bytes <= text.length(); bytes++) {
      int want = places[bytes] < 0 ? letters[bytes] : Check.fault(places[bytes], 0);
      C.dueBook(text.substring(0, bytes), want);
    }
    String hangs = TWO + ";hangs 0 1";
    int[] ends = {0, 31, 31, 31, 31, 31, 36, 37, 38, 39};
    for (int more = 1; more <= 9; more++) {
      C.dueBook(hangs.substring(0, 30 + more), Check.fault(ends[more], 0));
    }
    C.faultyBook("   ^", 0);
    C.faultyBook(" ".repeat(400) + "^", 0);
    C.faultyBook("book 1 0;habit 1  ^", 0);
  }

  private static void eachByte() {
    C.says(0, "0 a byte or WORD that can't stand there");
    for (int sign = 0; sign <= 255; sign++) {
      boolean digit = sign >= '0' && sign <= '9';
      boolean small = sign >= 'a' && sign <= 'z';
      C.dueBook("book 1 0" + (char) sign, sign == ' ' || digit ? 0 : Check.fault(sign == ';' ? 9 : 8, 0));
      C.dueBook("book 1 0;" + (char) sign, Check.fault(sign == ' ' ? 10 : 9, 0));
      int behindWord = digit ? Check.fault(4, 1) : Check.fault(small ? 0 : 4, 0);
      C.dueBook("book" + (char) sign + "1 0", sign == ' ' || sign == '0' ? 0 : behindWord);
      C.dueBook((char) sign + "book 1 0", sign == ' ' ? 0 : Check.fault(0, 0));
    }
  }

  private static void digits() {
    C.says(0, "1 a NUMBER of more digits, or not as told (of hangs the second LETTER, if it is the first);");
    C.dueBook("book 00001 00000;letter 00007 00007;letter 00000 00000;habit 00007 00007;hangs 00001 00000", 2);
    C.faultyBook("book ^000001 0", 1);
    C.faultyBook("book 1 ^000000", 1);
    C.faultyBook("book 1 0;letter ^000001 0", 1);
    C.faultyBook("book 1 0;letter 1 ^000001", 1);
    C.faultyBook("book 1 0;habit ^000001 0", 1);
    C.faultyBook("book 1 0;habit 1 ^000001", 1);
    C.faultyBook(TWO + ";hangs ^000001 0", 1);
    C.faultyBook(TWO + ";hangs 1 ^000000", 1);
    C.faultyBook("book ^00010 0", 1);
    C.faultyBook("book 1 ^01000", 1);
    C.faultyBook("book 1 ^99999", 1);
    // Numbers that would go round to one that is as told.
    C.faultyBook("book ^4294967297 0", 1);
    C.faultyBook("book ^18446744073709551617 0", 1);
    C.faultyBook("book 1 ^65536", 1);
    C.faultyBook(TWO + ";hangs 1 ^1", 1);
    C.faultyBook(TWO + ";hangs 1 ^00001", 1);
    C.faultyBook(TWO + ";hangs ^2 2", 1);
  }

  private static void tooMany() {
    C.says(0, "4 one CLAUSE too many, a second book, another CLAUSE ahead of it, an eleventh LETTER, a thirteenth habit"
        + " (at its first byte).");
    C.faultyBook(FORTY + ";  ^hangs", 4);
    C.faultyBook(FORTY + ";^book", 4);
    C.faultyBook("book 1 0 ;  ^book", 4);
    C.faultyBook(" ^hangs", 4);
    C.faultyBook(" ^habit", 4);
    C.faultyBook(" ^letter", 4);
    C.faultyBook(TEN + "; ^letter", 4);
    C.dueBook("book 1 0" + ";habit 0 0".repeat(12), 0);
    C.faultyBook("book 1 0" + ";habit 0 0".repeat(12) + "; ^habit", 4);
    C.dueBook(TEN, 10);
    // One does not count for the other.
    C.dueBook(TEN + ";habit 0 0".repeat(12), 10);
    C.faultyBook(TEN + ";habit 0 0".repeat(12) + ";^letter 0 0", 4);
    C.faultyBook(TEN + ";habit 0 0".repeat(12) + ";^habit 0 0", 4);
  }

  private static void theFirstAlongTheText() {
    C.says(0, "FAULTS, the first along the text, 1 + 8 * its place and:");
    C.due("at 0: -2 - (1 + 8 * 0 + 0)", Check.book(new ErrataRow(), ""), -3);
    C.due("at 0: -2 - (1 + 8 * 0 + 4)", Check.book(new ErrataRow(), "letter"), -7);
    C.due("at 5: -2 - (1 + 8 * 5 + 1)", Check.book(new ErrataRow(), "book 0"), -44);
    C.due("at 400: -2 - (1 + 8 * 400 + 0)", Check.book(new ErrataRow(), " ".repeat(400)), -3203);
    C.faultyBook("book ^0 1000", 1);
    C.faultyBook("book ^0 x", 1);
    C.faultyBook("book ^x 1000", 0);
    C.faultyBook("^letter 8", 4);
    C.faultyBook("book 1 0;letter ^8 0;book", 1);
    C.faultyBook("book 1 0;^book 0 0;x", 4);
    C.faultyBook("book 1 0;letter 0 ^8;letter 8 0", 1);
    C.faultyBook(TWO + ";hangs ^2 0" + ";hangs0 1".repeat(37), 1);
    C.faultyBook(TWO + ";hangs0 1".repeat(36) + ";hangs 0 ^0;hangs", 1);
  }

  private static void theLeastOfOnePlace() {
    C.says(0, "Of one place the least.");
    C.faultyBook(FORTY + ";^", 0);
    C.faultyBook(FORTY + ";^x", 0);
    C.faultyBook(FORTY + ";^letters", 0);
    C.faultyBook(FORTY + ";^000000", 0);
    C.faultyBook("^000000", 0);
    C.faultyBook("book 1 0 ^000000", 0);
    C.faultyBook("^mend 1;book 1 0", 0);
  }

  /** Ten NOTES, twenty ACTS, six RULES, the fourth IN FORCE, x, IMAGES 1 and 3, EDITION 30. */
  private static ErrataRow busy() {
    ErrataRow row = Check.row("book 2 500" + ";letter 0 1".repeat(9) + ";habit 1 0;habit 1 2;hangs 3 2",
        "mend 1", "mend 2", "mend 3", "mend letter+1", "mend 5", "mend 6");
    row.force(3);
    row.seed(2147483647);
    row.image(1);
    for (int i = 0; i < 30; i++) {
      row.edition();
    }
    for (int i = 0; i < 10; i++) {
      row.note(i, i % 9, i % 8);
    }
    row.image(3);
    return row;
  }

  private static void aBookInPlaceOfAnother() {
    C.says(4, "The TAPE, which is empty then, is the BOOK in place of the one there was (no NOTES, nothing to be UNDONE;"
        + " the RULE IN FORCE and x stay): how many LETTERS;");
    ErrataRow row = busy();
    C.due("notes", row.count(10), 10);
    C.due("acts", row.count(11), 20);
    C.due("a book of ten letters", Check.book(row, "book 3 7" + ";letter 6 5".repeat(10)), 10);
    int[] want = {3, 1, 10, 6, 3, 0, 1023, 1023, 7, 0, 0, 0, 2147483647, 0};
    for (int what = 0; what <= 13; what++) {
      C.due("count(" + what + ")", row.count(what), want[what]);
    }
    C.due("undo()", row.undo(), -1);
    C.due("putAs(0): no notes", row.putAs(0), 255);
    C.due("hangs no more", row.letter(3, 3), 0);
    C.due("by the rule in force", row.edition(), 9);
    C.due("image 3 is there", row.back(3), 30);
    C.due("its letters", row.count(2), 9);
    C.due("image 1 is there", row.back(1), 0);
    C.due("image 0 is not", row.back(0), -1);
    C.due("a book without letters", Check.book(row, "book 3 7"), 0);
    C.due("letter(0, 0)", row.letter(0, 0), -1);
  }

  private static void aFaultyBook() {
    C.says(4, "-2 - its FAULT, and all stays.");
    String[] texts = {"", "book 3 7;letter 6 5;", "book 0 0", "book 3 7;book 3 7", " ".repeat(400), "letter 1 1",
        "book 3 7" + ";letter 6 5".repeat(11), "book 3 7" + ";habit 6 5".repeat(13), "book 3 7;letter 6 5;hangs 0 0"};
    for (String text : texts) {
      Twins.same(C, "a faulty book \"" + text + "\"", Twins::richWithoutTape, () -> {
        ErrataRow row = Twins.rich();
        C.isTrue("it is faulty", Check.book(row, text) <= -3);
        C.due("its tape is empty", row.count(13), 0);
        return row;
      });
    }
    // The twins above have few of all; this one has all there can be.
    ErrataRow row = busy();
    C.due("a faulty book", Check.book(row, "book 3 7;letter 6 5;"), Check.fault(20, 0));
    int[] want = {2, 2, 9, 6, 3, 30, row.count(6), row.count(7), row.count(8), 0, 10, 20, 2147483647, 0};
    for (int what = 0; what <= 13; what++) {
      C.due("count(" + what + ")", row.count(what), want[what]);
    }
    for (int left = 19; left >= 0; left--) {
      C.due("undo()", row.undo(), left);
    }
    C.due("ten editions cannot be undone", row.count(5), 10);
  }
}
