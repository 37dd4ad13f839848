/**
 * The boundaries of ONE, LEFT OFF, LEAST PURSE and RESTS: promises 23 (one), 24 (leftOff), 25 (leastPurse) and 27
 * (rests).
 */
public final class BestEdgesTest {
  private static final Check C = new Check();
  private static final int LEAST = Integer.MIN_VALUE;
  private static final int MOST = Integer.MAX_VALUE;
  private static final String ONE_WRONG = "book 1 0;letter 0 1";

  public static void main(String[] args) {
    oneForEditions();
    oneTheFewest();
    oneOfSeveral();
    oneRefused();
    leftOffForEditions();
    leftOffEachOfTwelve();
    leftOffFromNowOn();
    leftOffOfSeveral();
    leftOffRefused();
    leastPurseForEditions();
    leastPurseTo999();
    leastPurseInPlace();
    leastPurseByARuleThatAsks();
    leastPurseRefused();
    restsForEditions();
    restsByPurse();
    restsTheFirst();
    restsOfTwo();
    restsRefused();
    C.close();
  }

  private static void dueOne(String what, ErrataRow row, int n, int many, int which, int as) {
    C.due(what + ": one(" + n + ", 0)", row.one(n, 0), many);
    C.due(what + ": one(" + n + ", 1)", row.one(n, 1), which);
    C.due(what + ": one(" + n + ", 2)", row.one(n, 2), as);
  }

  private static void oneForEditions() {
    C.says(0, "ONE for n EDITIONS (1 to 40): the LETTER that had best be PUT otherwise now, and as what, or none, so that"
        + " fewest are WRONG then;");
    C.says(23, "ONE what 0: how many, 1: which, 2: as what (both NONE: none).");
    // Mended in time: none; else it had best be put right now.
    int[] editions = {0, 1, 20, 38, 39};
    for (int edition : editions) {
      ErrataRow row = Check.row(ONE_WRONG, "mend 1 if edition = " + edition);
      dueOne("mended in " + edition, row, edition + 1, 0, -1, -1);
      if (edition > 0) {
        dueOne("mended in " + edition, row, edition, 0, 0, 1);
      }
    }
    ErrataRow row = Check.row(ONE_WRONG, "mend 1 if edition = 40");
    dueOne("mended in 40", row, 40, 0, 0, 1);
    row.edition();
    dueOne("mended in 40, from 1", row, 39, 0, 0, 1);
    dueOne("mended in 40, from 1", row, 40, 0, -1, -1);
    row = Check.row("book 1 0;letter 1 1", "mend 0");
    dueOne("none is wrong", row, 1, 0, -1, -1);
    dueOne("none is wrong", row, 40, 0, -1, -1);
    dueOne("without letters", Check.row("book 1 0"), 1, 0, -1, -1);
    dueOne("without letters", Check.row("book 1 0"), 40, 0, -1, -1);
  }

  private static void oneTheFewest() {
    C.says(0, "so that fewest are WRONG then;");
    // 0 and 1 hang on 2, which nobody mends: with 2 put right the others are mended.
    ErrataRow row = Check.row("book 1 0;letter 0 1;letter 0 1;letter 0 6;hangs 0 2;hangs 1 2", "mend 1 if letter < 2");
    dueOne("with 2 put right", row, 2, 0, 2, 6);
    // In one edition one of them is mended: 1 is left.
    dueOne("with 2 put right", row, 1, 1, 2, 6);
    // Put otherwise though it stays wrong: then the habit puts it right.
    row = Check.row("book 1 0;letter 2 7;habit 0 7", "mend 0");
    dueOne("by habit as 0, or right away as 7", row, 1, 0, 0, 0);
    for (int letter = 0; letter <= 9; letter++) {
      row = Check.row("book 1 0" + ";letter 5 5".repeat(letter) + ";letter 3 0" + ";letter 5 5".repeat(9 - letter), "mend 0");
      dueOne("letter " + letter + " alone is wrong", row, 1, 0, letter, 0);
    }
    for (int meant = 0; meant <= 7; meant++) {
      row = Check.row("book 1 0;letter " + (meant + 1) % 8 + " " + meant, "mend 0");
      dueOne("meant as " + meant, row, 40, 0, 0, meant);
    }
    dueOne("ten", Check.row("book 1 0" + ";letter 0 7".repeat(10), "mend 0"), 40, 9, 0, 7);
  }

  private static void oneOfSeveral() {
    C.says(0, "of several none, then the least LETTER, then the least PUT: how many; which; as what.");
    // Nothing that is put otherwise helps.
    dueOne("none", Check.row("book 1 0;letter 1 1;habit 1 2", "mend 0"), 1, 1, -1, -1);
    dueOne("none", Check.row("book 1 0;letter 0 1;letter 0 1"), 2, 0, -1, -1);
    // The least letter, though the other one would be put as less.
    dueOne("the least letter", Check.row("book 1 0;letter 1 7;letter 1 0", "mend 0"), 1, 1, 0, 7);
    dueOne("the least letter", Check.row("book 1 0;letter 1 1;letter 1 7;letter 1 0", "mend 0"), 1, 1, 1, 7);
    // As 3, as 5 or as 7: the least put.
    ErrataRow row = Check.row("book 1 0;letter 2 7;habit 5 7;habit 3 7", "mend 0");
    dueOne("by two habits", row, 2, 0, 0, 3);
    dueOne("by one habit", row, 1, 0, 0, 5);
    // What is right would be put wrong by the press; put wrong now, as whatever, it is mended: the least put of all.
    dueOne("wrong as 0, and mended", Check.row("book 1 0;letter 1 1;habit 1 2"), 1, 0, 0, 0);
    dueOne("wrong as 1, and mended", Check.row("book 1 0;letter 0 0;habit 0 2"), 1, 0, 0, 1);
    // Only 0 to 7: neither below nor above is one that would be mended.
    dueOne("none below 0", Check.row("book 1 0;letter 1 1;habit 1 2", "mend 0-put"), 1, 1, -1, -1);
    dueOne("none above 7", Check.row("book 1 0;letter 1 1;habit 1 2", "mend put-7"), 1, 1, -1, -1);
    dueOne("as 7", Check.row("book 1 0;letter 1 1;habit 1 2", "mend put-6"), 1, 0, 0, 7);
    // Put right, or put so that it is the one that the press has: the least put.
    row = Check.row("book 1 0;letter 2 3;letter 1 1;letter 1 1;habit 1 0", "mend 1 if put = 4");
    dueOne("right as 3, or had by the press as 1", row, 1, 1, 0, 1);
    // As it is put now is none, though it is the least put that is so.
    dueOne("none, though as 0 it is so, too", Check.row("book 1 0;letter 0 7;habit 0 7", "mend 0"), 1, 0, -1, -1);
  }

  private static void oneRefused() {
    C.says(23, "-2 without these, or a BOOK.");
    int[] ns = {0, -1, 41, 42, LEAST, MOST};
    for (int n : ns) {
      for (int what = 0; what <= 2; what++) {
        int of = what;
        Twins.nothingHappens(C, "one(" + n + ", " + of + ")", Twins::rich, row -> row.one(n, of), -2);
      }
    }
    int[] whats = {-1, 3, 4, LEAST, MOST};
    for (int what : whats) {
      Twins.nothingHappens(C, "one(1, " + what + ")", Twins::rich, row -> row.one(1, what), -2);
      C.due("one(40, " + what + ")", Twins.rich().one(40, what), -2);
    }
    for (int what = 0; what <= 2; what++) {
      int of = what;
      Twins.nothingHappens(C, "one(1, " + of + ") without a book", ErrataRow::new, row -> row.one(1, of), -2);
    }
  }

  private static void dueLeftOff(String what, ErrataRow row, int n, int which, int many) {
    C.due(what + ": leftOff(" + n + ", 0)", row.leftOff(n, 0), which);
    C.due(what + ": leftOff(" + n + ", 1)", row.leftOff(n, 1), many);
  }

  private static void leftOffForEditions() {
    C.says(0, "LEFT OFF for n EDITIONS (1 to 40): the habit told that had best not be from now on (nothing is PUT by it),"
        + " or none, so that fewest are WRONG then;");
    C.says(24, "LEFT OFF what 0: which (NONE: none), 1: how many.");
    // Mended in an edition, and put wrong by habit in the next one.
    int[] editions = {1, 20, 38};
    for (int edition : editions) {
      ErrataRow row = Check.row(ONE_WRONG + ";habit 1 2", "mend 1 if edition = " + edition);
      dueLeftOff("mended in " + edition, row, edition, -1, 1);
      dueLeftOff("mended in " + edition, row, edition + 1, -1, 0);
      dueLeftOff("mended in " + edition, row, edition + 2, 0, 0);
    }
    ErrataRow row = Check.row(ONE_WRONG + ";habit 1 2", "mend 1 if edition = 0");
    dueLeftOff("mended in 0", row, 1, -1, 0);
    dueLeftOff("mended in 0", row, 2, 0, 0);
    row = Check.row(ONE_WRONG + ";habit 1 2", "mend 1 if edition = 39");
    dueLeftOff("mended in 39", row, 39, -1, 1);
    dueLeftOff("mended in 39", row, 40, -1, 0);
    row.edition();
    dueLeftOff("mended in 39, from 1", row, 39, -1, 0);
    dueLeftOff("mended in 39, from 1", row, 40, 0, 0);
    dueLeftOff("without letters", Check.row("book 1 0;habit 1 2"), 1, -1, 0);
    dueLeftOff("without letters", Check.row("book 1 0;habit 1 2"), 40, -1, 0);
  }

  private static void leftOffEachOfTwelve() {
    C.says(0, "the habit told that had best not be");
    for (int habit = 0; habit <= 11; habit++) {
      ErrataRow row = Check.row("book 1 0;letter 1 1" + ";habit 7 7".repeat(habit) + ";habit 1 0" + ";habit 7 7".repeat(11 - habit),
          "mend 0");
      if (habit > 0) {
        dueLeftOff("habit " + habit, row, habit, -1, 0);
      }
      dueLeftOff("habit " + habit, row, habit + 1, habit, 0);
      dueLeftOff("habit " + habit, row, 12, habit, 0);
      dueLeftOff("habit " + habit, row, 40, habit, 0);
    }
    // As many as there can be are wrong.
    dueLeftOff("ten wrong", Check.row("book 1 0" + ";letter 0 1".repeat(10) + ";habit 5 6".repeat(12), "mend 0"), 1, -1, 10);
    dueLeftOff("ten wrong", Check.row("book 1 0" + ";letter 0 1".repeat(10) + ";habit 5 6".repeat(12), "mend 0"), 40, -1, 10);
    // No habit is told: none can be left off.
    dueLeftOff("none told", Check.row("book 1 0;letter 0 1;letter 0 0", "mend 0"), 1, -1, 1);
    dueLeftOff("one told", Check.row("book 1 0;letter 0 0;habit 0 1", "mend 0"), 1, 0, 0);
  }

  private static void leftOffFromNowOn() {
    C.says(0, "from now on (nothing is PUT by it)");
    // Four letters, of which habit 1 puts one wrong in each of the editions 1, 4, 7 and 10.
    ErrataRow row = Check.row("book 1 0" + ";letter 1 1".repeat(4) + ";habit 7 7;habit 1 0;habit 6 6", "mend 0");
    dueLeftOff("four times", row, 11, 1, 0);
    dueLeftOff("always", row, 40, 1, 0);
    for (int i = 0; i < 2; i++) {
      row.edition();
    }
    // What was put by it before stays.
    dueLeftOff("from 2", row, 2, -1, 1);
    dueLeftOff("from 2", row, 3, 1, 1);
    dueLeftOff("from 2", row, 40, 1, 1);
    // Nothing is put by it, not another letter either, and what is mended is mended all the same.
    row = Check.row("book 1 0;letter 0 1;letter 1 1;letter 1 1;habit 1 2");
    dueLeftOff("mended, and none put", row, 1, 0, 0);
    // It is left off for this question alone.
    row = Check.row("book 1 0;letter 1 1;habit 1 2", "mend 0");
    for (int what = 0; what <= 1; what++) {
      C.due("leftOff(1, " + what + ")", row.leftOff(1, what), 0);
      C.due("row(1, 0) by the habit", row.row(1, 0), 1);
      C.due("leftOff(1, " + what + ")", row.leftOff(1, what), 0);
      C.due("ahead(0, 1, 0) by the habit", row.ahead(0, 1, 0), 2);
      C.due("leftOff(1, " + what + ")", row.leftOff(1, what), 0);
      C.due("ring(0) by the habit", row.ring(0), 1);
    }
    // The habit puts it right: it had best be.
    dueLeftOff("it had best be", Check.row("book 1 0;letter 0 1;habit 0 1", "mend 0"), 1, -1, 0);
  }

  private static void leftOffOfSeveral() {
    C.says(0, "of several none, then the least: which; how many.");
    // Without any one of them it would be right; behind one alone nothing is.
    ErrataRow row = Check.row("book 1 0;letter 1 1;habit 1 2;habit 2 3;habit 3 4", "mend 0");
    dueLeftOff("the least of three", row, 3, 0, 0);
    // 1 is put as 2 by habit 1, and as 3 by habit 2; left off, either leaves it 1 wrong: none.
    row = Check.row("book 1 0;letter 1 3;habit 7 7;habit 1 2;habit 2 3", "mend 0");
    dueLeftOff("none, as it comes right", row, 3, -1, 0);
    dueLeftOff("none, as it stays wrong", row, 2, -1, 1);
    // Two letters, two habits: each is worth one.
    row = Check.row("book 1 0;letter 1 1;letter 4 4;habit 7 7;habit 1 2;habit 4 5", "mend 0");
    dueLeftOff("the least of two", row, 3, 1, 1);
    dueLeftOff("only one so far", row, 2, 1, 0);
    // The fewest, though it is a later one.
    row = Check.row("book 1 0;letter 1 1;letter 4 4;letter 4 4;habit 1 2;habit 4 5", "mend 0");
    dueLeftOff("the second one is worth two", row, 4, 1, 1);
    dueLeftOff("the second one is worth one", row, 2, 0, 1);
  }

  private static void leftOffRefused() {
    C.says(24, "-2 without these, or a BOOK.");
    int[] ns = {0, -1, 41, 42, LEAST, MOST};
    for (int n : ns) {
      for (int what = 0; what <= 1; what++) {
        int of = what;
        Twins.nothingHappens(C, "leftOff(" + n + ", " + of + ")", Twins::rich, row -> row.leftOff(n, of), -2);
      }
    }
    int[] whats = {-1, 2, 3, LEAST, MOST};
    for (int what : whats) {
      Twins.nothingHappens(C, "leftOff(1, " + what + ")", Twins::rich, row -> row.leftOff(1, what), -2);
      C.due("leftOff(40, " + what + ")", Twins.rich().leftOff(40, what), -2);
    }
    for (int what = 0; what <= 1; what++) {
      int of = what;
      Twins.nothingHappens(C, "leftOff(1, " + of + ") without a book", ErrataRow::new, row -> row.leftOff(1, of), -2);
    }
  }

  // Two rules that mend nobody; the second one asks for the purse.
  private static final String[] NOBODY = {"mend 0", "mend 0*purse"};

  private static void leastPurseForEditions() {
    C.says(0, "LEAST PURSE for n EDITIONS (1 to 40): the least, 0 to 999, in place of what it has, by which in these all"
        + " that are WRONG in (3) are PAID.");
    C.says(25, "LEAST PURSE;");
    int[] ns = {1, 2, 39, 40};
    for (String rule : NOBODY) {
      for (int n : ns) {
        C.due("one: leastPurse(" + n + ")", Check.row(ONE_WRONG, rule).leastPurse(n), n);
        C.due("ten: leastPurse(" + n + ")", Check.row("book 1 0" + ";letter 0 1".repeat(10), rule).leastPurse(n), 10 * n);
        C.due("none is wrong: leastPurse(" + n + ")", Check.row("book 9 0;letter 1 1", rule).leastPurse(n), 0);
        C.due("without letters: leastPurse(" + n + ")", Check.row("book 9 0", rule).leastPurse(n), 0);
      }
    }
    // Those that are wrong in (3): not the one that is mended, but the one that is put wrong.
    C.due("mended", Check.row("book 9 0;letter 0 1").leastPurse(1), 0);
    C.due("put wrong", Check.row("book 9 0;letter 1 1;habit 1 2").leastPurse(1), 9);
    C.due("put wrong, then mended", Check.row("book 9 0;letter 1 1;habit 1 2").leastPurse(2), 9);
    C.due("put wrong twice", Check.row("book 9 0;letter 1 1;habit 1 2").leastPurse(3), 18);
    // Until it is mended.
    for (int edition = 0; edition <= 40; edition++) {
      C.due("mended in " + edition, Check.row(ONE_WRONG, "mend 1 if edition = " + edition).leastPurse(40), edition);
      C.due("mended in " + edition + ", asking", Check.row(ONE_WRONG, "mend 1 if edition = " + edition + "+0*purse").leastPurse(40),
          edition);
    }
  }

  private static void leastPurseTo999() {
    C.says(0, "the least, 0 to 999");
    C.says(25, "-2: by none;");
    for (String rule : NOBODY) {
      // 9 for three in 37 editions; 3 for nine in 37; 8 for five in 25; 4 for ten in 25; 9 for ten in 40.
      C.due("999", Check.row("book 9 0" + ";letter 0 1".repeat(3), rule).leastPurse(37), 999);
      C.due("999", Check.row("book 3 0" + ";letter 0 1".repeat(9), rule).leastPurse(37), 999);
      C.due("1000", Check.row("book 8 0" + ";letter 0 1".repeat(5), rule).leastPurse(25), -2);
      C.due("1000", Check.row("book 4 0" + ";letter 0 1".repeat(10), rule).leastPurse(25), -2);
      C.due("990", Check.row("book 9 0" + ";letter 0 1".repeat(10), rule).leastPurse(11), 990);
      C.due("1080", Check.row("book 9 0" + ";letter 0 1".repeat(10), rule).leastPurse(12), -2);
      C.due("3600", Check.row("book 9 999" + ";letter 0 1".repeat(10), rule).leastPurse(40), -2);
    }
  }

  private static void leastPurseInPlace() {
    C.says(0, "in place of what it has");
    int[] purses = {0, 1, 6, 7, 999};
    for (String rule : NOBODY) {
      for (int purse : purses) {
        ErrataRow row = Check.row("book 7 " + purse + ";letter 0 1", rule);
        C.due("by " + purse, row.leastPurse(3), 21);
        row.edition();
        C.due("by " + purse + ", later", row.leastPurse(3), 21);
      }
      // What is owed by then does not count, as much as it may be.
      ErrataRow row = Check.row("book 1 0" + ";letter 0 1".repeat(10), rule);
      for (int i = 0; i < 100; i++) {
        row.edition();
      }
      C.due("owed", row.count(9), 999);
      C.due("owed 999", row.leastPurse(2), 20);
    }
  }

  private static void leastPurseByARuleThatAsks() {
    C.says(0, "the least, 0 to 999, in place of what it has, by which in these all that are WRONG in (3) are PAID.");
    // The purse that it is mended by at once, for the least and the greatest one.
    C.due("mended by 0", Check.row("book 1 5;letter 0 1", "mend 1 if purse = 0").leastPurse(40), 0);
    C.due("mended by 1", Check.row("book 1 5;letter 0 1", "mend 1 if purse = 1").leastPurse(40), 1);
    // Ten need 1080 in 12 editions, but 972 if one of them is mended at once.
    int[] purses = {972, 998, 999};
    for (int purse : purses) {
      C.due("mended by " + purse, Check.row("book 9 0" + ";letter 0 1".repeat(10), "mend 1 if edition = 0 and purse = " + purse)
          .leastPurse(12), purse);
    }
    C.due("mended by 971", Check.row("book 9 0" + ";letter 0 1".repeat(10), "mend 1 if edition = 0 and purse = 971")
        .leastPurse(12), -2);
    C.due("mended by 1000", Check.row("book 9 0" + ";letter 0 1".repeat(10), "mend 1 if edition = 0 and purse = 1000")
        .leastPurse(12), -2);
    // A rule of nothing but the purse: mended by 1.
    C.due("mend purse", Check.row("book 1 5;letter 0 1", "mend purse").leastPurse(40), 1);
    C.due("mend purse-3", Check.row("book 1 5;letter 0 1", "mend purse-3").leastPurse(40), 4);
    C.due("mend 5-purse", Check.row("book 9 5;letter 0 1", "mend 5-purse").leastPurse(40), 0);
    C.due("in a later clause", Check.row("book 1 5;letter 0 1", "mend 0 if letter = 7;mend 1 if 3 = purse").leastPurse(40), 3);
    // More is not always better: by 2 it is mended, by 3 to 39 it is not paid in the end.
    ErrataRow row = Check.row("book 1 0;letter 0 1", "mend 1 if purse = 2 and edition = 0");
    C.due("by 2", row.leastPurse(40), 2);
    C.due("by 2", row.leastPurse(3), 2);
    C.due("by 1", row.leastPurse(1), 1);
  }

  private static void leastPurseRefused() {
    C.says(25, "NONE without these, or a BOOK.");
    int[] ns = {0, -1, 41, 42, LEAST, MOST};
    for (int n : ns) {
      Twins.nothingHappens(C, "leastPurse(" + n + ")", Twins::rich, row -> row.leastPurse(n), -1);
      C.due("leastPurse(" + n + "), nobody to be paid", Check.row("book 1 0").leastPurse(n), -1);
    }
    Twins.nothingHappens(C, "leastPurse(1) without a book", ErrataRow::new, row -> row.leastPurse(1), -1);
    Twins.nothingHappens(C, "leastPurse(40) without a book", ErrataRow::new, row -> row.leastPurse(40), -1);
  }

  private static void dueRests(String what, ErrataRow row, int n, int many, int first, int second) {
    C.due(what + ": rests(0, 1, " + n + ", 0)", row.rests(0, 1, n, 0), many);
    C.due(what + ": rests(0, 1, " + n + ", 1)", row.rests(0, 1, n, 1), first);
    C.due(what + ": rests(0, 1, " + n + ", 2)", row.rests(0, 1, n, 2), second);
  }

  /** Two letters, right as 0 and as 5, that nobody mends, and a purse of so many quarters. */
  private static ErrataRow two(int purse) {
    return Check.row("book 1 " + purse + ";letter 0 0;letter 0 5", "mend 0");
  }

  private static void restsForEditions() {
    C.says(0, "RESTS of two LETTERS for n EDITIONS (1 to 20): each is PUT as 0, 1, .. or 7 now:");
    C.says(27, "RESTS what 0: how many, 1, 2: as what by the first (-2: there is none).");
    // For one that is wrong alone the purse is enough, or short by one; of two that are wrong the first one is paid once
    // more than the second one, if the purse is odd.
    int[][] want = {{1, 1, 7, 1, 5}, {1, 2, 49, 1, 0}, {2, 1, 15, 0, 0}, {2, 2, 63, 0, 0}, {2, 3, 56, 1, 0}, {10, 9, 14, 0, 0},
        {10, 10, 63, 0, 0}, {10, 11, 56, 1, 0}, {19, 18, 14, 0, 0}, {19, 19, 7, 1, 5}, {19, 20, 49, 1, 0}, {20, 19, 14, 0, 0},
        {20, 20, 63, 0, 0}, {20, 21, 56, 1, 0}};
    for (int[] rests : want) {
      dueRests("a purse of " + rests[1], two(rests[1]), rests[0], rests[2], rests[3], rests[4]);
    }
  }

  private static void restsByPurse() {
    C.says(0, "each has how often it is PAID in these, less how often it is WRONG in (3) in these and not PAID:");
    dueRests("nothing to be paid by", two(0), 1, 1, 0, 5);
    dueRests("nothing to be paid by", two(0), 20, 1, 0, 5);
    dueRests("one quarter", two(1), 1, 7, 1, 5);
    dueRests("two quarters", two(2), 1, 49, 1, 0);
    dueRests("enough for all", two(999), 20, 49, 1, 0);
    dueRests("just enough for all", two(40), 20, 49, 1, 0);
    // It is paid in these, whatever it was paid before.
    ErrataRow row = Check.row("book 1 30;letter 1 0;letter 1 5", "mend 0");
    for (int i = 0; i < 15; i++) {
      row.edition();
    }
    C.due("paid before", row.letter(0, 2), 15);
    dueRests("paid before", row, 1, 1, 0, 5);
  }

  private static void restsTheFirst() {
    C.says(0, "twos of which neither would have more by another one: how many; the first (by the first one, then the second one).");
    // As 0, 1 and above 1 are all that matters: paid by the habit's turn, there is no rest in two editions.
    ErrataRow row = Check.row("book 1 2;letter 0 0;letter 0 0;habit 0 1", "mend 1 if put > 1");
    dueRests("one edition", row, 1, 3, 0, 1);
    dueRests("none", row, 2, 0, -2, -2);
    // Nobody is paid, and each letter is right as told alone: the one rest there is.
    for (int i = 0; i <= 7; i++) {
      row = Check.row("book 1 0;letter 0 " + i + ";letter 0 " + (7 - i), "mend 0");
      dueRests("right as " + i + " and " + (7 - i), row, 20, 1, i, 7 - i);
      C.due("the other way round", row.rests(1, 0, 20, 1), 7 - i);
      C.due("the other way round", row.rests(1, 0, 20, 2), i);
    }
    // One that is wrong alone is mended at once: only both wrong is no rest, as the second one is not paid then.
    dueRests("mended at once", Check.row("book 1 0;letter 3 0;letter 4 0"), 2, 15, 0, 0);
  }

  private static void restsOfTwo() {
    C.says(0, "RESTS of two LETTERS");
    // The first and the last of ten; the others are as they are now, and are paid, too, in their turn.
    String ten = ";letter 0 0" + ";letter 1 1".repeat(8) + ";letter 0 5";
    ErrataRow row = Check.row("book 1 1" + ten, "mend 0");
    C.due("rests(0, 9, 1, 0)", row.rests(0, 9, 1, 0), 7);
    C.due("rests(0, 9, 1, 1)", row.rests(0, 9, 1, 1), 1);
    C.due("rests(0, 9, 1, 2)", row.rests(0, 9, 1, 2), 5);
    C.due("rests(9, 0, 1, 1)", row.rests(9, 0, 1, 1), 5);
    C.due("rests(9, 0, 1, 2)", row.rests(9, 0, 1, 2), 1);
    row.set(4, 7);
    // The quarter is for 0, or else for 4: 9 had best be right.
    C.due("rests(0, 9, 1, 0)", row.rests(0, 9, 1, 0), 7);
    // The quarter is for 4, ahead of 9 and 8.
    C.due("rests(8, 9, 1, 0)", row.rests(8, 9, 1, 0), 1);
    C.due("rests(8, 9, 1, 1)", row.rests(8, 9, 1, 1), 1);
    C.due("rests(8, 9, 1, 2)", row.rests(8, 9, 1, 2), 5);
  }

  private static void restsRefused() {
    C.says(27, "NONE without these (unlike).");
    int[][] refused = {{0, 0, 1, 0}, {4, 4, 1, 0}, {-1, 0, 1, 0}, {0, -1, 1, 0}, {5, 0, 1, 0}, {0, 5, 1, 0}, {10, 0, 1, 0},
        {0, 10, 1, 0}, {LEAST, 0, 1, 0}, {0, MOST, 1, 0}, {0, 1, 0, 0}, {0, 1, -1, 0}, {0, 1, 21, 0}, {0, 1, 22, 0},
        {0, 1, LEAST, 0}, {0, 1, MOST, 0}, {0, 1, 1, -1}, {0, 1, 1, 3}, {0, 1, 20, 3}, {0, 1, 1, LEAST}, {0, 1, 1, MOST},
        {0, 1, 0, 1}, {0, 1, 21, 2}, {3, 3, 20, 2}, {-1, -1, 1, 0}, {5, 6, 1, 0}};
    for (int[] call : refused) {
      Twins.nothingHappens(C, "rests(" + call[0] + ", " + call[1] + ", " + call[2] + ", " + call[3] + ") of five", Twins::rich,
          row -> row.rests(call[0], call[1], call[2], call[3]), -1);
    }
    C.isTrue("rests(4, 0, 20, 0) of five", Twins.rich().rests(4, 0, 20, 0) >= 0);
    C.isTrue("rests(0, 4, 20, 0) of five", Twins.rich().rests(0, 4, 20, 0) >= 0);
    Twins.nothingHappens(C, "rests(0, 1, 1, 0) without a book", ErrataRow::new, row -> row.rests(0, 1, 1, 0), -1);
    Twins.nothingHappens(C, "rests(0, 1, 1, 0) of one letter", () -> Check.row(ONE_WRONG), row -> row.rests(0, 1, 1, 0), -1);
  }
}
