/**
 * The boundaries of what the Terms say of how it goes on, and of promises 15 (ahead), 16 (allRight), 17 (firstRight),
 * 18 (unpaid), 19 (row) and 28 (ring).
 */
public final class AheadEdgesTest {
  private static final Check C = new Check();
  private static final String ONE_WRONG = "book 1 0;letter 0 1";
  private static final String TEN_WRONG = "book 1 0" + ";letter 0 1".repeat(10);

  public static void main(String[] args) {
    nothingChanges();
    ahead();
    aheadRefused();
    allRight();
    firstRight();
    unpaid();
    unpaidRefused();
    rowOfFewest();
    rowOfSeveral();
    rowRefused();
    ringOf60();
    ringOfEditionsThatComeRound();
    ringTheFirst();
    ringRefused();
    C.close();
  }

  private static void nothingChanges() {
    C.says(0, "(By what is asked nothing changes; EDITIONS go on by the RULE IN FORCE.)");
    Twins.nothingChanges(C, "ahead(0, 100, 0)", Twins::rich, row -> row.ahead(0, 100, 0));
    Twins.nothingChanges(C, "allRight()", Twins::rich, ErrataRow::allRight);
    Twins.nothingChanges(C, "firstRight(4)", Twins::rich, row -> row.firstRight(4));
    Twins.nothingChanges(C, "unpaid(0)", Twins::rich, row -> row.unpaid(0));
    Twins.nothingChanges(C, "row(4, 4)", Twins::rich, row -> row.row(4, 4));
    Twins.nothingChanges(C, "rings()", Twins::rich, ErrataRow::rings);
    Twins.nothingChanges(C, "twice(0)", Twins::rich, row -> row.twice(0));
    Twins.nothingChanges(C, "apart(0, 1, 4)", Twins::rich, row -> row.apart(0, 1, 4));
    Twins.nothingChanges(C, "one(40, 0)", Twins::rich, row -> row.one(40, 0));
    Twins.nothingChanges(C, "leftOff(40, 0)", Twins::rich, row -> row.leftOff(40, 0));
    Twins.nothingChanges(C, "leastPurse(40)", Twins::rich, row -> row.leastPurse(40));
    Twins.nothingChanges(C, "putAs(0)", Twins::rich, row -> row.putAs(0));
    Twins.nothingChanges(C, "rests(0, 1, 20, 0)", Twins::rich, row -> row.rests(0, 1, 20, 0));
    Twins.nothingChanges(C, "ring(0)", Twins::rich, row -> row.ring(0));
    Twins.nothingChanges(C, "pence(9999, 0)", Twins::rich, row -> row.pence(9999, 0));
    Twins.nothingChanges(C, "ruled(0)", Twins::rich, row -> row.ruled(0));
    Twins.nothingChanges(C, "look(60, 0)", Twins::rich, row -> row.look(60, 0));
    Twins.nothingChanges(C, "slips(10, 60, 100, 0)", Twins::rich, row -> row.slips(10, 60, 100, 0));
    Twins.nothingChanges(C, "letter(0, 0)", Twins::rich, row -> row.letter(0, 0));
    Twins.nothingChanges(C, "habit(0, 0)", Twins::rich, row -> row.habit(0, 0));
    Twins.nothingChanges(C, "count(6)", Twins::rich, row -> row.count(6));
    // By the rule in force, and by none if none is.
    ErrataRow row = Check.row(ONE_WRONG, "mend 1 if edition = 3", "mend 0");
    C.due("by rule 0", row.allRight(), 3);
    row.force(1);
    C.due("by rule 1", row.allRight(), -2);
    row.force(-1);
    C.due("by none", row.allRight(), 0);
  }

  private static void ahead() {
    C.says(0, "AHEAD n EDITIONS (0 to 100): as what a LETTER is PUT; WRONG LETTERS, as bits; the PURSE; how much is OWED.");
    C.says(15, "AHEAD what 0: PUT, 1: WRONG ones, 2: the PURSE, 3: OWED (letter is asked for the first one alone).");
    int[] editions = {0, 1, 50, 98, 99};
    for (int edition : editions) {
      ErrataRow row = Check.row(ONE_WRONG, "mend 1 if edition = " + edition);
      C.due("mended in " + edition + ": ahead(0, " + edition + ", 0)", row.ahead(0, edition, 0), 0);
      C.due("mended in " + edition + ": ahead(0, " + (edition + 1) + ", 0)", row.ahead(0, edition + 1, 0), 1);
      C.due("mended in " + edition + ": wrong ahead", row.ahead(0, edition, 1), 1);
      C.due("mended in " + edition + ": none wrong ahead", row.ahead(0, edition + 1, 1), 0);
    }
    ErrataRow later = Check.row(ONE_WRONG, "mend 1 if edition = 100");
    C.due("mended in 100: ahead(0, 100, 0)", later.ahead(0, 100, 0), 0);
    later.edition();
    C.due("mended in 100, one later: ahead(0, 99, 0)", later.ahead(0, 99, 0), 0);
    C.due("mended in 100, one later: ahead(0, 100, 0)", later.ahead(0, 100, 0), 1);
    ErrataRow ten = Check.row(TEN_WRONG);
    for (int n = 0; n <= 10; n++) {
      C.due("ahead(0, " + n + ", 1)", ten.ahead(0, n, 1), 1023 & -1 << n);
      C.due("ahead(9, " + n + ", 0)", ten.ahead(9, n, 0), n == 10 ? 1 : 0);
    }
    ErrataRow row = Check.row("book 3 200;letter 0 1", "mend 0");
    int[] asked = {0, 1, 2, 65, 66, 67, 99, 100};
    for (int n : asked) {
      int paid = Math.min(n, 66);
      C.due("ahead(0, " + n + ", 2)", row.ahead(0, n, 2), 200 - 3 * paid);
      C.due("ahead(0, " + n + ", 3)", row.ahead(0, n, 3), n - paid);
    }
    int[] letters = {-1, 1, 10, Integer.MIN_VALUE, Integer.MAX_VALUE};
    for (int letter : letters) {
      C.due("ahead(" + letter + ", 1, 1)", row.ahead(letter, 1, 1), 1);
      C.due("ahead(" + letter + ", 1, 2)", row.ahead(letter, 1, 2), 197);
      C.due("ahead(" + letter + ", 1, 3)", row.ahead(letter, 1, 3), 0);
    }
    C.due("without letters: ahead(0, 100, 1)", Check.row("book 1 7").ahead(0, 100, 1), 0);
    C.due("without letters: ahead(0, 100, 2)", Check.row("book 1 7").ahead(0, 100, 2), 7);
  }

  private static void aheadRefused() {
    C.says(15, "NONE without these, or a BOOK.");
    int[] ns = {-1, 101, 102, Integer.MIN_VALUE, Integer.MAX_VALUE};
    for (int n : ns) {
      for (int what = 0; what <= 3; what++) {
        int of = what;
        Twins.nothingHappens(C, "ahead(0, " + n + ", " + of + ")", Twins::rich, row -> row.ahead(0, n, of), -1);
      }
    }
    int[] whats = {-1, 4, 5, Integer.MIN_VALUE, Integer.MAX_VALUE};
    for (int what : whats) {
      Twins.nothingHappens(C, "ahead(0, 1, " + what + ")", Twins::rich, row -> row.ahead(0, 1, what), -1);
    }
    int[] letters = {-1, 5, 9, 10, Integer.MIN_VALUE, Integer.MAX_VALUE};
    for (int letter : letters) {
      Twins.nothingHappens(C, "ahead(" + letter + ", 1, 0) of five", Twins::rich, row -> row.ahead(letter, 1, 0), -1);
    }
    for (int what = 0; what <= 3; what++) {
      int of = what;
      Twins.nothingHappens(C, "ahead(0, 0, " + of + ") without a book", ErrataRow::new, row -> row.ahead(0, 0, of), -1);
    }
    C.due("without letters: ahead(0, 0, 0)", Check.row("book 1 0").ahead(0, 0, 0), -1);
  }

  private static void allRight() {
    C.says(0, "ALL RIGHT: the first EDITION, this one the first, of 200, behind which none is WRONG.");
    C.says(16, "ALL RIGHT; -2: behind none of these; NONE without a BOOK.");
    int[] editions = {0, 1, 100, 198, 199};
    for (int edition : editions) {
      C.due("mended in " + edition, Check.row(ONE_WRONG, "mend 1 if edition = " + edition).allRight(), edition);
    }
    ErrataRow row = Check.row(ONE_WRONG, "mend 1 if edition = 200");
    C.due("mended in 200", row.allRight(), -2);
    row.edition();
    C.due("mended in 200, from 1", row.allRight(), 200);
    row = Check.row(ONE_WRONG, "mend 1 if edition = 201");
    row.edition();
    C.due("mended in 201, from 1", row.allRight(), -2);
    C.due("right from the first", Check.row("book 1 0;letter 1 1").allRight(), 0);
    row = Check.row("book 1 0;letter 1 1");
    row.edition();
    row.edition();
    C.due("right from this one on", row.allRight(), 2);
    // Right now, but not behind this edition.
    C.due("put wrong in this one", Check.row("book 1 0;letter 1 1;habit 1 2", "mend 0").allRight(), -2);
    C.due("put wrong in this one, mended in the next", Check.row("book 1 0;letter 1 1;habit 1 2").allRight(), 1);
    C.due("all ten", Check.row(TEN_WRONG).allRight(), 9);
    C.due("all but the tenth", Check.row(TEN_WRONG, "mend 10-letter-1").allRight(), -2);
    C.due("without letters", Check.row("book 1 0").allRight(), 0);
    Twins.nothingHappens(C, "allRight() without a book", ErrataRow::new, ErrataRow::allRight, -1);
  }

  private static void firstRight() {
    C.says(0, "FIRST RIGHT of a LETTER: the first EDITION, this one the first, of 200, behind which it is not WRONG.");
    C.says(17, "FIRST RIGHT; -2: behind none of these; NONE without that LETTER.");
    int[] editions = {0, 1, 100, 198, 199};
    for (int edition : editions) {
      ErrataRow row = Check.row("book 1 0;letter 0 1;letter 0 1", "mend 1 if letter = 1 and edition = " + edition);
      C.due("mended in " + edition, row.firstRight(1), edition);
      C.due("the other one", row.firstRight(0), -2);
    }
    ErrataRow row = Check.row(ONE_WRONG, "mend 1 if edition = 200");
    C.due("mended in 200", row.firstRight(0), -2);
    row.edition();
    C.due("mended in 200, from 1", row.firstRight(0), 200);
    row = Check.row(ONE_WRONG, "mend 1 if edition = 201");
    row.edition();
    C.due("mended in 201, from 1", row.firstRight(0), -2);
    row = Check.row("book 1 0;letter 1 1;letter 0 1;habit 1 2", "mend 1 if letter = 0");
    C.due("put wrong in this one, mended in the next", row.firstRight(0), 1);
    C.due("never", row.firstRight(1), -2);
    ErrataRow ten = Check.row(TEN_WRONG);
    for (int i = 0; i <= 9; i++) {
      C.due("firstRight(" + i + ") of ten", ten.firstRight(i), i);
    }
    C.due("firstRight(10) of ten", ten.firstRight(10), -1);
    int[] letters = {-1, 5, 9, 10, 32, Integer.MIN_VALUE, Integer.MAX_VALUE};
    for (int letter : letters) {
      Twins.nothingHappens(C, "firstRight(" + letter + ") of five", Twins::rich, r -> r.firstRight(letter), -1);
    }
    Twins.nothingHappens(C, "firstRight(0) without a book", ErrataRow::new, r -> r.firstRight(0), -1);
    C.due("firstRight(0) without letters", Check.row("book 1 0").firstRight(0), -1);
  }

  private static void dueUnpaid(String what, ErrataRow row, int edition, int which) {
    C.due(what + ": unpaid(0)", row.unpaid(0), edition);
    C.due(what + ": unpaid(1)", row.unpaid(1), which);
  }

  private static void unpaid() {
    C.says(0, "UNPAID: the first EDITION, this one the first, of 200, in which any LETTER that is WRONG in (3) is not PAID;"
        + " which, the least.");
    C.says(18, "UNPAID what 0: the EDITION, 1: which; -2: in none of these.");
    int[] purses = {0, 1, 100, 198, 199};
    for (int purse : purses) {
      dueUnpaid("one by " + purse, Check.row("book 1 " + purse + ";letter 1 1;letter 0 1", "mend 0"), purse, 1);
    }
    ErrataRow row = Check.row("book 1 200;letter 0 1", "mend 0");
    dueUnpaid("one by 200", row, -2, -2);
    row.edition();
    dueUnpaid("one by 200, from 1", row, 200, 0);
    row = Check.row("book 1 201;letter 0 1", "mend 0");
    row.edition();
    dueUnpaid("one by 201, from 1", row, -2, -2);
    // Of ten the purse is enough for so many, and the next one is the least that is not paid.
    for (int purse = 0; purse <= 9; purse++) {
      dueUnpaid("ten by " + purse, Check.row("book 1 " + purse + ";letter 0 1".repeat(10), "mend 0"), 0, purse);
    }
    dueUnpaid("ten by 10", Check.row("book 1 10" + ";letter 0 1".repeat(10), "mend 0"), 1, 0);
    dueUnpaid("ten by 25", Check.row("book 1 25" + ";letter 0 1".repeat(10), "mend 0"), 2, 5);
    dueUnpaid("a quarter short", Check.row("book 9 8;letter 0 1", "mend 0"), 0, 0);
    dueUnpaid("just a quarter", Check.row("book 9 9;letter 0 1", "mend 0"), 1, 0);
    // In (3), so behind (1) and (2).
    dueUnpaid("mended ahead of it", Check.row("book 1 0;letter 0 1"), -2, -2);
    dueUnpaid("put wrong ahead of it", Check.row("book 1 0;letter 1 1;habit 1 2"), 0, 0);
    dueUnpaid("without letters", Check.row("book 1 0"), -2, -2);
  }

  private static void unpaidRefused() {
    C.says(18, "NONE for others, or without a BOOK.");
    int[] whats = {-1, 2, 3, Integer.MIN_VALUE, Integer.MAX_VALUE};
    for (int what : whats) {
      Twins.nothingHappens(C, "unpaid(" + what + ")", Twins::rich, row -> row.unpaid(what), -1);
    }
    Twins.nothingHappens(C, "unpaid(0) without a book", ErrataRow::new, row -> row.unpaid(0), -1);
    Twins.nothingHappens(C, "unpaid(1) without a book", ErrataRow::new, row -> row.unpaid(1), -1);
  }

  /** What row() answers for what 0, 1 and so on. */
  private static void dueRow(String what, ErrataRow row, int n, int... want) {
    for (int i = 0; i <= 4; i++) {
      C.due(what + ": row(" + n + ", " + i + ")", row.row(n, i), i < want.length ? want[i] : -2);
    }
  }

  private static void rowOfFewest() {
    C.says(0, "ROW for n EDITIONS (1 to 4): of all rows of what is MENDED in these, a LETTER that is LOOSE then, or none, in"
        + " place of what the RULE says, that by which fewest are WRONG behind them;");
    C.says(19, "ROW what 0: how many, 1 to 4: which in that EDITION (NONE: none; -2: so many there are not).");
    ErrataRow ten = Check.row(TEN_WRONG, "mend 0");
    dueRow("ten", ten, 1, 9, 0);
    dueRow("ten", ten, 2, 8, 0, 1);
    dueRow("ten", ten, 3, 7, 0, 1, 2);
    dueRow("ten", ten, 4, 6, 0, 1, 2, 3);
    // Each hangs on the next one: only from the last on.
    ErrataRow chain = Check.row("book 1 0" + ";letter 0 1".repeat(4) + ";hangs 0 1;hangs 1 2;hangs 2 3", "mend letter");
    dueRow("chain", chain, 1, 3, 3);
    dueRow("chain", chain, 2, 2, 3, 2);
    dueRow("chain", chain, 3, 1, 3, 2, 1);
    dueRow("chain", chain, 4, 0, 3, 2, 1, 0);
    dueRow("two that hang on each other", Check.row("book 1 0;letter 0 1;letter 0 1;hangs 0 1;hangs 1 0"), 4, 2, -1, -1, -1, -1);
    StringBuilder ring = new StringBuilder(TEN_WRONG);
    for (int i = 0; i <= 9; i++) {
      ring.append(";hangs ").append(i).append(' ').append((i + 1) % 10);
    }
    dueRow("ten that hang on each other", Check.row(ring.toString()), 1, 10, -1);
    dueRow("ten that hang on each other", Check.row(ring.toString()), 4, 10, -1, -1, -1, -1);
    ErrataRow again = Check.row(TEN_WRONG);
    dueRow("ten", again, 4, 6, 0, 1, 2, 3);
    Check.book(again, ring.toString());
    dueRow("ten that hang on each other, asked behind others", again, 4, 10, -1, -1, -1, -1);
    dueRow("the tenth alone", Check.row("book 1 0" + ";letter 1 1".repeat(9) + ";letter 0 1"), 1, 0, 9);
    // Each edition by its own habit: mended in edition 0 it would be put wrong in edition 1.
    dueRow("put wrong again", Check.row("book 1 0;letter 0 1;habit 7 7;habit 1 2"), 2, 0, -1, 0);
    dueRow("put wrong again", Check.row("book 1 0;letter 0 1;habit 7 7;habit 1 2"), 1, 0, 0);
    ErrataRow later = Check.row("book 1 0;letter 0 1;habit 7 7;habit 1 2", "mend 0");
    later.edition();
    dueRow("from edition 1", later, 1, 0, 0);
    dueRow("without letters", Check.row("book 1 0"), 4, 0, -1, -1, -1, -1);
  }

  private static void rowOfSeveral() {
    C.says(0, "of several the first (none ahead of LETTER 0): how many; which in which EDITION.");
    ErrataRow one = Check.row("book 1 0;letter 1 1;letter 0 1");
    dueRow("one", one, 1, 0, 1);
    dueRow("one", one, 2, 0, -1, 1);
    dueRow("one", one, 3, 0, -1, -1, 1);
    dueRow("one", one, 4, 0, -1, -1, -1, 1);
    ErrataRow two = Check.row("book 1 0;letter 0 1;letter 0 1");
    dueRow("two", two, 1, 1, 0);
    dueRow("two", two, 2, 0, 0, 1);
    dueRow("two", two, 3, 0, -1, 0, 1);
    dueRow("two", two, 4, 0, -1, -1, 0, 1);
    dueRow("none is wrong", Check.row("book 1 0;letter 1 1"), 4, 0, -1, -1, -1, -1);
    // A mending that is undone by the press in the same edition is worth as much as none.
    dueRow("none is as good", Check.row("book 1 0;letter 0 1;letter 1 1;habit 1 2"), 1, 1, 0);
  }

  private static void rowRefused() {
    C.says(19, "-3 without these, or a BOOK.");
    int[] ns = {0, -1, 5, 6, Integer.MIN_VALUE, Integer.MAX_VALUE};
    for (int n : ns) {
      for (int what = 0; what <= 5; what++) {
        int of = what;
        Twins.nothingHappens(C, "row(" + n + ", " + of + ")", Twins::rich, row -> row.row(n, of), -3);
      }
    }
    int[] whats = {-1, 5, 6, Integer.MIN_VALUE, Integer.MAX_VALUE};
    for (int what : whats) {
      for (int n = 1; n <= 4; n++) {
        int many = n;
        Twins.nothingHappens(C, "row(" + many + ", " + what + ")", Twins::rich, row -> row.row(many, what), -3);
      }
    }
    for (int n = 1; n <= 4; n++) {
      for (int what = 0; what <= 4; what++) {
        C.due("row(" + n + ", " + what + ") without a book", new ErrataRow().row(n, what), -3);
        C.isTrue("row(" + n + ", " + what + "): so many there are not", Twins.rich().row(n, what) == -2 == what > n);
      }
    }
  }

  private static void dueRing(String what, ErrataRow row, int edition, int later) {
    C.due(what + ": ring(0)", row.ring(0), edition);
    C.due(what + ": ring(1)", row.ring(1), later);
  }

  /**
   * One letter that goes on by one in each round of twelve editions, and is mended at the end of so many rounds: what
   * is put is as it was so many rounds before, and not sooner.
   */
  private static ErrataRow byRounds(int rounds) {
    StringBuilder book = new StringBuilder("book 1 0;letter 0 0");
    for (int i = rounds - 1; i >= 0; i--) {
      book.append(";habit ").append(i).append(' ').append(i + 1);
    }
    book.append(";habit 7 7".repeat(12 - rounds));
    return Check.row(book.toString(), "mend 1 if put = " + rounds + " and edition % 12 = 11");
  }

  /**
   * A row whose letters are put as at no other begin, until nothing is mended any more and so, from the begin of an
   * edition above 55 on, nothing changes. All are meant as 0, put as 2 at first, and once mended put as 1 by habit in
   * the next edition. So one by one, of the first k letters each one is right once, from the last to the first, then
   * none; then of the first k + 1 letters, and so on: 1 + 2 + 3 + .. + 11 ways to be put. A letter's own number and how
   * often it was right (edition - paid) make s together; the last one is mended whose s * s + 3 * s is at most
   * 2 * edition.
   */
  private static ErrataRow neverAlikeUntil(int edition) {
    String square = "letter*letter+edition*edition+paid*paid+2*letter*edition-2*letter*paid-2*edition*paid";
    return Check.row("book 1 999" + ";letter 2 0".repeat(10) + ";habit 0 1",
        "mend letter+1 if " + square + "+3*letter+3*edition-3*paid<=2*edition and edition<" + (edition - 1));
  }

  private static void ringOf60() {
    C.says(0, "RING: the first EDITION, this one the first, of 60, at whose begin all LETTERS are PUT as they are at the"
        + " begin of a later one, and the same EDITION comes round, 60 EDITIONS from now at most;");
    C.says(28, "RING what 0: the EDITION, 1: how much later; -2: there is none.");
    dueRing("it stays as it is", Check.row("book 1 0;letter 0 0"), 0, 1);
    dueRing("without letters", Check.row("book 1 0"), 0, 1);
    // The first one is the last of 60, and the later one is 60 from now.
    dueRing("alike from 58 on", neverAlikeUntil(58), 58, 1);
    dueRing("alike from 59 on", neverAlikeUntil(59), 59, 1);
    ErrataRow row = neverAlikeUntil(60);
    dueRing("alike from 60 on", row, -2, -2);
    row.edition();
    dueRing("alike from 60 on, from 1", row, 60, 1);
    row.edition();
    dueRing("alike from 60 on, from 2", row, 60, 1);
    // This one is the first, and the later one is 60 from now.
    dueRing("rounds of 48", byRounds(4), 0, 48);
    dueRing("rounds of 60", byRounds(5), 0, 60);
    dueRing("rounds of 72", byRounds(6), -2, -2);
    row = byRounds(5);
    for (int i = 1; i <= 13; i++) {
      row.edition();
      dueRing("rounds of 60, from " + i, row, i, 60);
    }
  }

  private static void ringOfEditionsThatComeRound() {
    C.says(0, "and the same EDITION comes round");
    for (int habits = 1; habits <= 12; habits++) {
      dueRing(habits + " that come round", Check.row("book 1 0;letter 0 0" + ";habit 7 7".repeat(habits)), 0, habits);
    }
    // Ten letters, one of which is mended in each sixth edition, the last one in 59: 60 is as 72.
    ErrataRow row = Check.row(TEN_WRONG + ";habit 7 7".repeat(12), "mend 1 if edition % 6 = 5");
    for (int i = 0; i < 12; i++) {
      dueRing("from " + i, row, -2, -2);
      row.edition();
    }
    dueRing("from 12", row, 60, 12);
    row.edition();
    dueRing("from 13", row, 60, 12);
  }

  private static void ringTheFirst() {
    C.says(0, "how much later the first such is.");
    dueRing("wrong and mended by turns", Check.row("book 1 0;letter 1 1;habit 1 2"), 0, 2);
    dueRing("by three", Check.row("book 1 0;letter 0 0;habit 0 1;habit 1 2;habit 2 0", "mend 0"), 0, 3);
    dueRing("by six: 0 1, 2 1, 2 0 and so on", Check.row("book 1 0;letter 0 7;letter 1 7;habit 0 2;habit 1 0;habit 2 1",
        "mend 0"), 0, 6);
    // First it goes another way: mended in 2, and from then on it stays.
    dueRing("mended in 2", Check.row("book 1 0;letter 0 1;letter 5 5;habit 5 4;habit 4 5", "mend 1 if edition = 2"), 0, 2);
    ErrataRow row = Check.row(TEN_WRONG);
    dueRing("ten, mended one by one", row, 10, 1);
    row.edition();
    dueRing("ten, from 1", row, 10, 1);
    // The tenth letter counts as the others do.
    dueRing("the tenth", Check.row("book 1 0" + ";letter 0 0".repeat(9) + ";letter 0 1"), 1, 1);
    // Only what is put: the purse and what was paid may be others.
    dueRing("only what is put", Check.row("book 1 9;letter 0 1", "mend 0"), 0, 1);
  }

  private static void ringRefused() {
    C.says(28, "NONE for others, or without a BOOK.");
    int[] whats = {-1, 2, 3, Integer.MIN_VALUE, Integer.MAX_VALUE};
    for (int what : whats) {
      Twins.nothingHappens(C, "ring(" + what + ")", Twins::rich, row -> row.ring(what), -1);
    }
    Twins.nothingHappens(C, "ring(0) without a book", ErrataRow::new, row -> row.ring(0), -1);
    Twins.nothingHappens(C, "ring(1) without a book", ErrataRow::new, row -> row.ring(1), -1);
  }
}
