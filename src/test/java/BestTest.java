/** Promises 23 (one), 24 (leftOff), 25 (leastPurse), 27 (rests). */
public final class BestTest {
  private static final Check C = new Check();
  private static final String BOOK = "book 2 9;letter 1 1;letter 2 3;letter 1 4;letter 5 5;habit 1 6;habit 0 0;hangs 2 1";

  public static void main(String[] args) {
    ones();
    leftOffs();
    leastPurses();
    rests();
    nothingChanges();
    withoutABook();
    C.close();
  }

  private static void one(ErrataRow row, int n, int many, int which, int as) {
    C.due("one(" + n + ", 0)", row.one(n, 0), many);
    C.due("one(" + n + ", 1)", row.one(n, 1), which);
    C.due("one(" + n + ", 2)", row.one(n, 2), as);
  }

  private static void ones() {
    ErrataRow row = Check.row(BOOK);
    one(row, 1, 1, 1, 3);
    one(row, 4, 0, -1, -1);
    one(row, 40, 0, -1, -1);
    C.due("one(0, 0)", row.one(0, 0), -2);
    C.due("one(41, 0)", row.one(41, 0), -2);
    C.due("one(1, 3)", row.one(1, 3), -2);
    C.due("one(1, -1)", row.one(1, -1), -2);
    one(Check.row("book 1 0"), 1, 0, -1, -1);
    // By a rule that mends nobody: the least letter of those that can be put right.
    row = Check.row("book 1 0;letter 0 0;letter 1 2;letter 3 4", "mend 0");
    one(row, 1, 1, 1, 2);
    one(row, 40, 1, 1, 2);
    row.set(1, 2);
    one(row, 3, 0, 2, 4);
    row.set(2, 4);
    one(row, 3, 0, -1, -1);
    // The least put of several: as 0, 1, .. it is put as 7 by habit, or not.
    row = Check.row("book 1 0;letter 2 7;habit 3 7", "mend 0");
    one(row, 1, 0, 0, 3);
    row = Check.row("book 1 0;letter 7 6;letter 7 7;letter 7 7;habit 0 6;habit 1 6", "mend 0");
    one(row, 2, 0, 0, 0);
  }

  private static void leftOff(ErrataRow row, int n, int which, int many) {
    C.due("leftOff(" + n + ", 0)", row.leftOff(n, 0), which);
    C.due("leftOff(" + n + ", 1)", row.leftOff(n, 1), many);
  }

  private static void leftOffs() {
    ErrataRow row = Check.row(BOOK);
    leftOff(row, 1, 0, 1);
    leftOff(row, 4, -1, 0);
    leftOff(row, 39, 0, 0);
    leftOff(row, 40, -1, 0);
    C.due("leftOff(0, 0)", row.leftOff(0, 0), -2);
    C.due("leftOff(41, 0)", row.leftOff(41, 0), -2);
    C.due("leftOff(1, 2)", row.leftOff(1, 2), -2);
    C.due("leftOff(1, -1)", row.leftOff(1, -1), -2);
    leftOff(Check.row("book 1 0"), 1, -1, 0);
    leftOff(Check.row("book 1 0;letter 0 1", "mend 0"), 7, -1, 1);
    leftOff(Check.row("book 1 0;letter 1 1;habit 7 7;habit 1 2", "mend 0"), 2, 1, 0);
    leftOff(Check.row("book 1 0;letter 1 1;habit 7 7;habit 1 2", "mend 0"), 1, -1, 0);
    // Without the first or the second one all is right: the least.
    leftOff(Check.row("book 1 0;letter 1 1;habit 1 3;habit 3 2", "mend 0"), 2, 0, 0);
    // All editions of that habit, not just the next one.
    leftOff(Check.row("book 1 0;letter 1 1;letter 1 1;letter 1 1;habit 1 2;habit 7 7", "mend 0"), 5, 0, 0);
    // The habit is still told to the rules.
    leftOff(Check.row("book 1 0;letter 1 1;letter 3 4;habit 1 2", "mend 1 if from = 1 and to = 2"), 1, 0, 0);
    // The last of twelve.
    leftOff(Check.row("book 1 0;letter 1 1" + Check.repeated(";habit 7 7", "", 11) + ";habit 1 0", "mend 0"), 12, 11, 0);
  }

  private static void leastPurses() {
    ErrataRow row = Check.row(BOOK);
    int[] want = {4, 6, 8, 8, 10, 10, 12};
    for (int n = 1; n <= want.length; n++) {
      C.due("leastPurse(" + n + ")", row.leastPurse(n), want[n - 1]);
    }
    C.due("leastPurse(40)", row.leastPurse(40), 44);
    C.due("leastPurse(41)", row.leastPurse(41), -1);
    C.due("leastPurse(0)", row.leastPurse(0), -1);
    C.due("leastPurse(-1)", row.leastPurse(-1), -1);
    C.due("nobody is wrong", Check.row("book 9 0;letter 1 1").leastPurse(40), 0);
    row = Check.row("book 9 0" + Check.repeated(";letter 0 1", "", 10), "mend 0");
    C.due("ten of 9 in 11", row.leastPurse(11), 990);
    C.due("ten of 9 in 12", row.leastPurse(12), -2);
    row = Check.row("book 9 0;letter 0 1;letter 0 1;letter 0 1", "mend 0");
    C.due("three of 9 in 37", row.leastPurse(37), 999);
    C.due("three of 9 in 38", row.leastPurse(38), -2);
    // A purse that is more is not always better: by 3 the letter is mended at once.
    row = Check.row("book 1 50;letter 0 1", "mend 1 if purse = 3");
    C.due("by a rule of the purse", row.leastPurse(20), 3);
    row = Check.row("book 2 4;letter 0 1", "mend 1 if purse = 5");
    C.due("and of a quarter 2", row.leastPurse(20), 5);
    // Rules that ask for the purse are tried with each one.
    String asking = "mend 0 if purse = 99;mend 0";
    row = Check.row("book 1 7;letter 0 1", asking);
    C.due("one of 1 in 3", row.leastPurse(3), 3);
    C.due("one of 1 in 40", row.leastPurse(40), 40);
    C.due("nobody", Check.row("book 1 7;letter 1 1", asking).leastPurse(40), 0);
    row = Check.row("book 9 0;letter 0 1;letter 0 1;letter 0 1", asking);
    C.due("three of 9 in 37, asking", row.leastPurse(37), 999);
    C.due("three of 9 in 38, asking", row.leastPurse(38), -2);
    // Each one from now on.
    row = Check.row("book 1 0;letter 0 1", "mend 1 if edition = 2 or purse = 99");
    C.due("paid twice, asking", row.leastPurse(10), 2);
    // What is owed already does not count.
    row = Check.row("book 1 0;letter 0 1", "mend 0");
    row.edition();
    C.due("owed", row.count(9), 1);
    C.due("later", row.leastPurse(3), 3);
  }

  private static void rests(ErrataRow row, int n, int many, int first, int second) {
    C.due("rests(0, 1, " + n + ", 0)", row.rests(0, 1, n, 0), many);
    C.due("rests(0, 1, " + n + ", 1)", row.rests(0, 1, n, 1), first);
    C.due("rests(0, 1, " + n + ", 2)", row.rests(0, 1, n, 2), second);
  }

  private static void rests() {
    // Both wrong: the first one is mended and the second one paid; else nobody has anything.
    ErrataRow row = Check.row("book 1 1;letter 0 0;letter 0 0");
    rests(row, 1, 57, 0, 0);
    C.due("rests(1, 0, 1, 0)", row.rests(1, 0, 1, 0), 57);
    // Nobody can be paid: each had best be right.
    row = Check.row("book 1 0;letter 0 0;letter 0 5", "mend 0");
    rests(row, 1, 1, 0, 5);
    rests(row, 20, 1, 0, 5);
    C.due("rests(1, 0, 3, 1)", row.rests(1, 0, 3, 1), 5);
    C.due("rests(1, 0, 3, 2)", row.rests(1, 0, 3, 2), 0);
    // All can be paid: each had best be wrong.
    row = Check.row("book 1 99;letter 0 0;letter 0 5", "mend 0");
    rests(row, 3, 49, 1, 0);
    // Worked out by hand: as 0, 1 and above 1 are all that matters.
    row = Check.row("book 1 2;letter 0 0;letter 0 0;habit 0 1", "mend 1 if put > 1");
    rests(row, 1, 3, 0, 1);
    rests(row, 2, 0, -2, -2);
    C.due("rests(1, 0, 1, 1)", row.rests(1, 0, 1, 1), 0);
    C.due("rests(1, 0, 1, 2)", row.rests(1, 0, 1, 2), 1);
    // Of two that are wrong the one that is put as more is mended, the other one paid.
    row = Check.row("book 1 1;letter 0 0;letter 0 0;habit 7 7", "mend put");
    rests(row, 1, 9, 0, 0);
    C.due("the other way round", row.rests(1, 0, 1, 0), 9);
    // Paid once and not paid once is nothing.
    row = Check.row("book 1 1;letter 0 0;letter 0 0", "mend 0");
    rests(row, 2, 15, 0, 0);
    rests(row, 3, 1, 0, 0);
    C.due("rests(0, 1, 0, 0)", row.rests(0, 1, 0, 0), -1);
    C.due("rests(0, 1, 21, 0)", row.rests(0, 1, 21, 0), -1);
    C.due("rests(0, 1, 1, 3)", row.rests(0, 1, 1, 3), -1);
    C.due("rests(0, 1, 1, -1)", row.rests(0, 1, 1, -1), -1);
    C.due("rests(0, 0, 1, 0)", row.rests(0, 0, 1, 0), -1);
    C.due("rests(0, 2, 1, 0)", row.rests(0, 2, 1, 0), -1);
    C.due("rests(2, 0, 1, 0)", row.rests(2, 0, 1, 0), -1);
    C.due("rests(-1, 0, 1, 0)", row.rests(-1, 0, 1, 0), -1);
    C.due("rests(0, -1, 1, 0)", row.rests(0, -1, 1, 0), -1);
  }

  private static void nothingChanges() {
    ErrataRow row = Check.row(BOOK);
    row.edition();
    int[] want = new int[14];
    for (int what = 0; what < 14; what++) {
      want[what] = row.count(what);
    }
    int ahead = row.ahead(0, 3, 1);
    row.one(40, 0);
    row.leftOff(1, 0);
    C.due("no habit stays left off", row.ahead(0, 3, 1), ahead);
    ErrataRow once = Check.row("book 1 0;letter 1 1;habit 1 2", "mend 0");
    C.due("the habit is left off", once.leftOff(1, 0), 0);
    C.due("row by all habits", once.row(1, 0), 1);
    C.due("the habit is left off", once.leftOff(1, 1), 0);
    C.due("ahead by all habits", once.ahead(0, 1, 0), 2);
    once.leftOff(1, 0);
    once.edition();
    C.due("edition by all habits", once.letter(0, 0), 2);
    row.leastPurse(40);
    row.rests(0, 1, 20, 0);
    for (int what = 0; what < 14; what++) {
      C.due("count(" + what + ") behind asking", row.count(what), want[what]);
    }
    C.due("put", row.letter(0, 0), 6);
    C.due("paid", row.letter(0, 2), 1);
  }

  private static void withoutABook() {
    ErrataRow row = new ErrataRow();
    C.due("one", row.one(1, 0), -2);
    C.due("leftOff", row.leftOff(1, 0), -2);
    C.due("leastPurse", row.leastPurse(1), -1);
    C.due("rests", row.rests(0, 1, 1, 0), -1);
  }
}
