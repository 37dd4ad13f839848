/** The boundaries of what the Terms say of EDITIONS and ACTS, and of promises 9 (edition) to 14 (undo). */
public final class EditionEdgesTest {
  private static final Check C = new Check();
  private static final String TEN_WRONG = "book 1 0" + ";letter 0 7".repeat(10);

  public static void main(String[] args) {
    loose();
    mended();
    mendedByClauses();
    mendedWithoutARule();
    putByHabit();
    theHabitsRest();
    paid();
    owedTo999();
    paidTo999();
    editions();
    editionRefused();
    set();
    setRefused();
    mend();
    mendRefused();
    hang();
    hangRefused();
    fill();
    fillRefused();
    undone();
    undoneLastFirst();
    undoneTwenty();
    undoneRound();
    undoneAll();
    undoRefused();
    notAnAct();
    C.close();
  }

  private static void puts(String when, ErrataRow row, int... want) {
    for (int i = 0; i < want.length; i++) {
      C.due(when + ": put of " + i, row.letter(i, 0), want[i]);
    }
  }

  private static void loose() {
    C.says(0, "A LETTER is LOOSE, if it is WRONG and HANGS on none that is WRONG.");
    ErrataRow row = Check.row(TEN_WRONG);
    C.due("ten that hang on none", row.count(7), 1023);
    for (int i = 0; i < 9; i++) {
      row.hang(i, i + 1);
      C.due("behind hang(" + i + ", " + (i + 1) + ")", row.count(7), 1023 & -1 << i + 1);
    }
    for (int i = 9; i >= 0; i--) {
      C.due("only " + i, row.count(7), 1 << i);
      C.due("mend(" + i + ")", row.mend(i), i);
    }
    C.due("none is wrong, none is loose", row.count(7), 0);
    // Letter 0 hangs on all others: one of them that is wrong is enough.
    row = Check.row("book 1 0;letter 0 1" + ";letter 0 0".repeat(9) + ";hangs 0 1;hangs 0 2;hangs 0 3;hangs 0 4;"
        + "hangs 0 5;hangs 0 6;hangs 0 7;hangs 0 8;hangs 0 9");
    C.due("all others are right", row.count(7), 1);
    for (int i = 1; i <= 9; i++) {
      row.set(i, 5);
      C.due("letter " + i + " alone is wrong", row.count(7), 1 << i);
      row.undo();
    }
    row = Check.row("book 1 0;letter 0 1;letter 0 1;hangs 0 1;hangs 1 0");
    C.due("two that hang on each other", row.count(7), 0);
    // One that is right and hangs on one that is wrong.
    row = Check.row("book 1 0;letter 0 0;letter 0 1;hangs 0 1");
    C.due("what is right is not loose", row.count(7), 2);
  }

  private static int mendedBy(String book, String rule) {
    ErrataRow row = Check.row(book, rule);
    int mended = row.edition();
    for (int i = 0; i < row.count(2); i++) {
      if (i == mended) {
        C.due("it is put as it is meant", row.letter(i, 0), row.letter(i, 1));
      }
    }
    return mended;
  }

  private static void mended() {
    C.says(0, "An EDITION: (1) of the LETTERS that are LOOSE that one is MENDED (PUT as it is MEANT) for which the SUM of"
        + " the RULE IN FORCE's first CLAUSE without a TEST, or whose TEST holds (0 without), is greatest, if it is above"
        + " 0, of several the least (none, if none is such);");
    C.due("0 is not above 0", mendedBy(TEN_WRONG, "mend 0"), -2);
    C.due("1 is", mendedBy(TEN_WRONG, "mend 1"), 0);
    C.due("below 0", mendedBy(TEN_WRONG, "mend 0-1"), -2);
    C.due("one alone is above 0", mendedBy(TEN_WRONG, "mend letter-8"), 9);
    C.due("none is above 0", mendedBy(TEN_WRONG, "mend letter-9"), -2);
    C.due("the greatest is the last", mendedBy(TEN_WRONG, "mend letter"), 9);
    C.due("the greatest is the first", mendedBy(TEN_WRONG, "mend 10-letter"), 0);
    C.due("of two, 8 and 9, the least", mendedBy(TEN_WRONG, "mend letter/2"), 8);
    C.due("of three, 2, 5 and 8, the least", mendedBy(TEN_WRONG, "mend letter%3"), 2);
    C.due("only loose ones: 9 hangs on 0", mendedBy(TEN_WRONG + ";hangs 9 0", "mend letter"), 8);
    C.due("only wrong ones", mendedBy("book 1 0;letter 0 1;letter 7 7", "mend put+1"), 0);
    C.due("none is loose", mendedBy("book 1 0;letter 0 1;letter 0 1;hangs 0 1;hangs 1 0", "mend 1"), -2);
    C.due("none is wrong", mendedBy("book 1 0;letter 0 0", "mend 1"), -2);
    C.due("there are none", mendedBy("book 1 0", "mend 1"), -2);
  }

  private static void mendedByClauses() {
    C.says(0, "the RULE IN FORCE's first CLAUSE without a TEST, or whose TEST holds (0 without), is greatest");
    C.due("no test holds", mendedBy(TEN_WRONG, "mend 9 if put=1"), -2);
    C.due("no test of two holds", mendedBy(TEN_WRONG, "mend 9 if put=1;mend 9 if put=2"), -2);
    C.due("the first that holds", mendedBy(TEN_WRONG, "mend 9 if letter=3;mend 5"), 3);
    C.due("the first that holds, though it is less", mendedBy(TEN_WRONG, "mend 5 if letter<9;mend 9"), 9);
    C.due("the first that holds, though it is 0", mendedBy(TEN_WRONG, "mend 0 if letter<9;mend 9"), 9);
    C.due("without a test, so nothing behind it", mendedBy(TEN_WRONG, "mend 0;mend 9"), -2);
    C.due("without a test between", mendedBy(TEN_WRONG, "mend 9 if letter=4;mend 1;mend 99"), 4);
    // A rule in force, and others that are not.
    ErrataRow row = Check.row(TEN_WRONG, "mend letter", "mend 1", "mend 1 if letter = 5");
    row.force(2);
    C.due("by rule 2", row.edition(), 5);
    row.force(0);
    C.due("by rule 0", row.edition(), 9);
  }

  private static void mendedWithoutARule() {
    C.says(0, "without a RULE the least.");
    ErrataRow row = Check.row(TEN_WRONG);
    for (int i = 0; i <= 9; i++) {
      C.due("edition", row.edition(), i);
    }
    C.due("none is wrong", row.edition(), -2);
    C.due("the least that is loose", Check.row(TEN_WRONG + ";hangs 0 9;hangs 1 9").edition(), 2);
    C.due("the last one alone is loose", Check.row("book 1 0;letter 0 1;letter 0 1;hangs 0 1").edition(), 1);
    row = Check.row(TEN_WRONG, "mend letter");
    row.force(-1);
    C.due("none in force", row.edition(), 0);
  }

  private static void putByHabit() {
    C.says(0, "the least LETTER that is PUT FROM, and was not MENDED in (1), is PUT TO.");
    ErrataRow row = Check.row("book 1 9;letter 0 1;letter 1 1;letter 1 1;habit 1 2");
    C.due("edition", row.edition(), 0);
    puts("the least but the mended one", row, 1, 2, 1);
    row = Check.row("book 1 9;letter 0 1;letter 5 5;habit 1 2");
    C.due("edition", row.edition(), 0);
    puts("the mended one is the only one that is put so", row, 1, 5);
    C.due("edition", row.edition(), -2);
    puts("it is not mended any more", row, 2, 5);
    row = Check.row("book 1 9" + ";letter 3 3".repeat(9) + ";letter 4 4;habit 4 7");
    row.edition();
    puts("the tenth", row, 3, 3, 3, 3, 3, 3, 3, 3, 3, 7);
    row = Check.row("book 1 9" + ";letter 4 4".repeat(10) + ";habit 4 0");
    row.edition();
    puts("the first of ten", row, 0, 4, 4, 4, 4, 4, 4, 4, 4, 4);
    row = Check.row("book 1 9;letter 4 4;letter 5 5;habit 6 0");
    row.edition();
    puts("none is put so", row, 4, 5);
    row = Check.row("book 1 9;letter 3 4;letter 3 3;habit 3 4", "mend 0");
    row.edition();
    puts("a wrong one is put right", row, 4, 3);
    C.due("so nobody is paid", row.count(8), 9);
    // (1) is ahead of (2): the one that is put wrong now is mended only in the next one.
    row = Check.row("book 1 9;letter 0 0;habit 0 1");
    C.due("edition 0", row.edition(), -2);
    puts("put wrong", row, 1);
    C.due("edition 1", row.edition(), 0);
    puts("mended", row, 0);
  }

  private static void theHabitsRest() {
    C.says(0, "(2) By the habit of this EDITION (of the habits told the one of the rest of EDITION by how many)");
    // Habit i puts i as i + 1, of 8 the rest: the letter goes on in each of the editions 0 to 11.
    StringBuilder book = new StringBuilder("book 1 0;letter 0 0");
    for (int i = 0; i < 12; i++) {
      book.append(";habit ").append(i % 8).append(' ').append((i + 1) % 8);
    }
    ErrataRow row = Check.row(book.toString(), "mend 0");
    for (int i = 0; i < 12; i++) {
      row.edition();
      puts("behind edition " + i, row, (i + 1) % 8);
    }
    row.edition();
    puts("edition 12 is as 0: none is put as 0", row, 4);
    row.set(0, 1);
    row.edition();
    puts("edition 13 is as 1", row, 2);
    for (int i = 14; i < 23; i++) {
      row.edition();
    }
    row.set(0, 3);
    row.edition();
    puts("edition 23 is as 11", row, 4);
    row.set(0, 0);
    row.edition();
    puts("edition 24 is as 0", row, 1);
    // As many as there are: by three, edition 3 is as 0, and by one each is.
    row = Check.row("book 1 0;letter 0 0;habit 0 1;habit 1 2;habit 2 0", "mend 0");
    for (int i = 0; i < 7; i++) {
      row.edition();
      puts("of three, behind edition " + i, row, (i + 1) % 3);
    }
    row = Check.row("book 1 0" + ";letter 0 0".repeat(10) + ";habit 0 5", "mend 0");
    for (int i = 0; i < 10; i++) {
      row.edition();
      C.due("of one, behind edition " + i, row.count(6), (2 << i) - 1);
    }
  }

  private static void paid() {
    C.says(0, "(3) LETTERS that are WRONG, by numbers, are each PAID, if the PURSE has QUARTER or more (it has that less"
        + " then;");
    // Ten that are wrong, quarter 3: as many are paid as the purse has quarters, the least numbers first.
    for (int purse = 0; purse <= 31; purse++) {
      ErrataRow row = Check.row("book 3 " + purse + ";letter 0 1".repeat(10), "mend 0");
      row.edition();
      int many = Math.min(purse / 3, 10);
      for (int i = 0; i < 10; i++) {
        C.due("purse " + purse + ": paid of " + i, row.letter(i, 2), i < many ? 1 : 0);
      }
      C.due("purse " + purse + ", then", row.count(8), purse - 3 * many);
      C.due("purse " + purse + ": owed", row.count(9), 10 - many);
    }
    for (int quarter = 1; quarter <= 9; quarter++) {
      ErrataRow row = Check.row("book " + quarter + " " + (quarter - 1) + ";letter 0 1", "mend 0");
      row.edition();
      C.due("one too few: purse", row.count(8), quarter - 1);
      C.due("one too few: owed", row.count(9), 1);
      row.fill(1);
      row.edition();
      C.due("just enough: purse", row.count(8), 0);
      C.due("just enough: owed", row.count(9), 1);
      C.due("just enough: paid", row.letter(0, 2), 1);
    }
    // Those that are wrong then: not the mended one, but the one that was put wrong by habit.
    ErrataRow row = Check.row("book 1 9;letter 0 1;letter 2 2;letter 3 3;habit 2 5");
    row.edition();
    C.due("the mended one", row.letter(0, 2), 0);
    C.due("the one put wrong", row.letter(1, 2), 1);
    C.due("the right one", row.letter(2, 2), 0);
  }

  private static void owedTo999() {
    C.says(0, "else is OWED one more (999 at most).");
    ErrataRow row = Check.row(TEN_WRONG, "mend 0");
    for (int i = 1; i <= 99; i++) {
      row.edition();
      C.due("owed", row.count(9), 10 * i);
    }
    C.due("ahead of one more", row.ahead(0, 1, 3), 999);
    for (int i = 0; i < 9; i++) {
      row.set(i, 7);
    }
    for (int i = 991; i <= 999; i++) {
      row.edition();
      C.due("owed", row.count(9), i);
    }
    row.edition();
    C.due("owed, at most", row.count(9), 999);
    C.due("ahead", row.ahead(0, 100, 3), 999);
    C.due("edition", row.count(5), 109);
    // One more for each, but no more than 999 altogether.
    row = Check.row(TEN_WRONG, "mend 0");
    for (int i = 0; i < 100; i++) {
      row.edition();
    }
    C.due("owed of 1000", row.count(9), 999);
  }

  /** A row in EDITION 999: more calls than the document promises anything of. */
  private static ErrataRow in999(String book, String... rules) {
    ErrataRow row = Check.row(book, rules);
    for (int i = 0; i < 999; i++) {
      row.edition();
    }
    return row;
  }

  private static void paidTo999() {
    C.says(0, "PAID 999 times at most are counted)");
    ErrataRow row = in999("book 1 999;letter 0 1", "mend 0", "mend 1 if paid = 1000", "mend 1 if paid = 999 and edition = 1003");
    C.due("paid", row.letter(0, 2), 999);
    C.due("purse", row.count(8), 0);
    C.due("owed", row.count(9), 0);
    row.fill(50);
    C.due("paid on, it has that less", row.ahead(0, 10, 2), 40);
    row.force(1);
    C.due("more are not counted", row.allRight(), -2);
    row.force(2);
    C.due("they are 999 then", row.allRight(), 1003);
  }

  private static void editions() {
    C.says(0, "EDITION is 1 more (999 at most by hand; EDITIONS that are asked go on beyond).");
    C.says(9, "An EDITION: the LETTER that is MENDED (-2: none);");
    ErrataRow row = Check.row("book 1 9;letter 0 1;letter 0 1;letter 0 0");
    int[] mended = {0, 1, -2, -2};
    for (int i = 0; i < 4; i++) {
      C.due("edition", row.count(5), i);
      C.due("edition()", row.edition(), mended[i]);
      C.due("edition", row.count(5), i + 1);
    }
    row = Check.row("book 1 0;letter 0 1", "mend 1 if edition = 1000", "mend 1 if edition = 1199", "mend 1 if edition = 998",
        "mend 1 if edition = 1198");
    for (int i = 0; i < 998; i++) {
      row.edition();
    }
    C.due("edition", row.count(5), 998);
    row.force(2);
    C.due("edition() in 998", row.edition(), 0);
    C.due("edition", row.count(5), 999);
    row.undo();
    row.force(0);
    C.due("edition() in 998", row.edition(), -2);
    C.due("edition() in 999", row.edition(), -1);
    C.due("asked, it goes on: allRight", row.allRight(), 1000);
    C.due("asked, it goes on: firstRight", row.firstRight(0), 1000);
    C.due("asked, it goes on: ahead(0, 1, 0)", row.ahead(0, 1, 0), 0);
    C.due("asked, it goes on: ahead(0, 2, 0)", row.ahead(0, 2, 0), 1);
    row.force(1);
    C.due("behind the last of 200 from 999", row.allRight(), -2);
    row.force(3);
    C.due("in the last of 200 from 999", row.allRight(), 1198);
    C.due("from 999 unpaid", row.unpaid(0), 999);
    C.due("from 999 a ring", row.ring(0), 999);
    row.undo();
    C.due("from 998 a ring", row.ring(0), 998);
  }

  private static void editionRefused() {
    C.says(9, "NONE, and nothing happens, without a BOOK, or in EDITION 999.");
    Twins.nothingHappens(C, "edition() without a book", ErrataRow::new, ErrataRow::edition, -1);
    Twins.nothingHappens(C, "edition() without a book, with a rule", () -> {
      ErrataRow row = new ErrataRow();
      Check.rule(row, "mend 1");
      row.force(0);
      row.seed(7);
      return row;
    }, ErrataRow::edition, -1);
    Twins.nothingHappens(C, "edition() in 999", () -> in999("book 1 999;letter 0 1;letter 1 1;habit 1 2", "mend 0"),
        ErrataRow::edition, -1);
  }

  private static void set() {
    C.says(0, "SET (a LETTER is PUT otherwise, 0 to 7);");
    C.says(10, "SET: as what it was PUT;");
    ErrataRow row = Check.row("book 1 0" + ";letter 3 3".repeat(10));
    for (int i = 0; i <= 9; i++) {
      C.due("set(" + i + ", 0)", row.set(i, 0), 3);
      C.due("set(" + i + ", 7)", row.set(i, 7), 0);
      C.due("put", row.letter(i, 0), 7);
      C.due("wrong", row.count(6), (2 << i) - 1);
    }
    for (int put = 0; put <= 6; put++) {
      C.due("set(0, " + put + ")", row.set(0, put), put == 0 ? 7 : put - 1);
      C.due("put", row.letter(0, 0), put);
    }
    C.due("set as it is meant", row.set(0, 3), 6);
    C.due("wrong", row.count(6), 1022);
    C.due("edition", row.count(5), 0);
  }

  private static void setRefused() {
    C.says(10, "NONE, and nothing happens, without these (otherwise).");
    int[] letters = {-1, 5, 9, 10, Integer.MIN_VALUE, Integer.MAX_VALUE};
    for (int letter : letters) {
      Twins.nothingHappens(C, "set(" + letter + ", 1) of five", Twins::rich, row -> row.set(letter, 1), -1);
    }
    int[] puts = {-1, 8, 9, Integer.MIN_VALUE, Integer.MAX_VALUE};
    for (int put : puts) {
      Twins.nothingHappens(C, "set(0, " + put + ")", Twins::rich, row -> row.set(0, put), -1);
    }
    for (int letter = 0; letter <= 4; letter++) {
      int same = letter;
      Twins.nothingHappens(C, "set(" + same + ", as it is)", Twins::rich, row -> row.set(same, row.letter(same, 0)), -1);
    }
    C.due("set(4, 1)", Twins.rich().set(4, 1), 0);
    Twins.nothingHappens(C, "set(10, 0) of ten", () -> Check.row(TEN_WRONG), row -> row.set(10, 0), -1);
    Twins.nothingHappens(C, "set without a book", ErrataRow::new, row -> row.set(0, 1), -1);
    Twins.nothingHappens(C, "set without letters", () -> Check.row("book 1 0"), row -> row.set(0, 1), -1);
  }

  private static void mend() {
    C.says(0, "MEND (a LETTER that is LOOSE is MENDED);");
    C.says(11, "MEND: how many are WRONG then;");
    ErrataRow row = Check.row(TEN_WRONG);
    for (int i = 9; i >= 0; i--) {
      C.due("mend(" + i + ")", row.mend(i), i);
      C.due("put", row.letter(i, 0), 7);
    }
    C.due("edition", row.count(5), 0);
    C.due("acts", row.count(11), 10);
  }

  private static void mendRefused() {
    C.says(11, "NONE, and nothing happens, without it LOOSE.");
    Twins.Maker maker = () -> Check.row("book 1 0;letter 0 1;letter 0 1;letter 2 2;letter 0 1;hangs 1 0;hangs 3 2");
    Twins.nothingHappens(C, "mend(1), which hangs on one that is wrong", maker, row -> row.mend(1), -1);
    Twins.nothingHappens(C, "mend(2), which is right", maker, row -> row.mend(2), -1);
    int[] letters = {-1, 4, 9, 10, 31, 32, Integer.MIN_VALUE, Integer.MAX_VALUE};
    for (int letter : letters) {
      Twins.nothingHappens(C, "mend(" + letter + ") of four", maker, row -> row.mend(letter), -1);
    }
    C.due("mend(0)", maker.make().mend(0), 2);
    C.due("mend(3), which hangs on one that is right", maker.make().mend(3), 2);
    Twins.nothingHappens(C, "mend(10) of ten", () -> Check.row(TEN_WRONG), row -> row.mend(10), -1);
    Twins.nothingHappens(C, "mend without a book", ErrataRow::new, row -> row.mend(0), -1);
    Twins.nothingHappens(C, "mend without letters", () -> Check.row("book 1 0"), row -> row.mend(0), -1);
  }

  private static void hang() {
    C.says(0, "HANG (a LETTER HANGS on another one, or, if it did, no more);");
    C.says(12, "HANG: 1 if the first one HANGS on the second one then, else 0;");
    ErrataRow row = Check.row(TEN_WRONG + ";hangs 9 0");
    C.due("hang(0, 9)", row.hang(0, 9), 1);
    C.due("letter 0 hangs", row.letter(0, 3), 512);
    C.due("letter 9 hangs as before", row.letter(9, 3), 1);
    C.due("hang(9, 0), no more", row.hang(9, 0), 0);
    C.due("letter 9 hangs", row.letter(9, 3), 0);
    C.due("hang(9, 0), again", row.hang(9, 0), 1);
    for (int i = 1; i <= 8; i++) {
      C.due("hang(0, " + i + ")", row.hang(0, i), 1);
    }
    C.due("letter 0 hangs on all others", row.letter(0, 3), 1022);
    C.due("hang(0, 5), no more", row.hang(0, 5), 0);
    C.due("letter 0 hangs on all others but 5", row.letter(0, 3), 1022 - 32);
    C.due("acts", row.count(11), 12);
  }

  private static void hangRefused() {
    C.says(12, "NONE, and nothing happens, without these (unlike).");
    for (int letter = 0; letter <= 4; letter++) {
      int same = letter;
      Twins.nothingHappens(C, "hang(" + same + ", " + same + ")", Twins::rich, row -> row.hang(same, same), -1);
    }
    int[] letters = {-1, 5, 9, 10, 32, Integer.MIN_VALUE, Integer.MAX_VALUE};
    for (int letter : letters) {
      Twins.nothingHappens(C, "hang(" + letter + ", 0) of five", Twins::rich, row -> row.hang(letter, 0), -1);
      Twins.nothingHappens(C, "hang(0, " + letter + ") of five", Twins::rich, row -> row.hang(0, letter), -1);
    }
    C.due("hang(4, 0)", Twins.rich().hang(4, 0), 1);
    C.due("hang(0, 4)", Twins.rich().hang(0, 4), 1);
    Twins.nothingHappens(C, "hang without a book", ErrataRow::new, row -> row.hang(0, 1), -1);
    Twins.nothingHappens(C, "hang of one letter", () -> Check.row("book 1 0;letter 0 1"), row -> row.hang(0, 1), -1);
  }

  private static void fill() {
    C.says(0, "FILL (the PURSE has 1 to 99 more, 999 at most).");
    C.says(13, "FILL: the PURSE then;");
    for (int much = 1; much <= 99; much++) {
      ErrataRow row = Check.row("book 1 7");
      C.due("fill(" + much + ")", row.fill(much), 7 + much);
      C.due("purse", row.count(8), 7 + much);
      C.due("acts", row.count(11), 1);
    }
    int[][] most = {{899, 99, 998}, {900, 99, 999}, {901, 99, 999}, {997, 1, 998}, {998, 1, 999}, {999, 1, 999},
        {998, 2, 999}, {999, 99, 999}, {0, 99, 99}};
    for (int[] fill : most) {
      ErrataRow row = Check.row("book 1 " + fill[0]);
      C.due("fill(" + fill[1] + ") of " + fill[0], row.fill(fill[1]), fill[2]);
      C.due("purse", row.count(8), fill[2]);
      C.due("undo()", row.undo(), 0);
      C.due("purse", row.count(8), fill[0]);
    }
    C.due("without letters", Check.row("book 1 0").fill(1), 1);
  }

  private static void fillRefused() {
    C.says(13, "NONE, and nothing happens, without these, or a BOOK.");
    int[] much = {0, -1, 100, 101, Integer.MIN_VALUE, Integer.MAX_VALUE};
    for (int more : much) {
      Twins.nothingHappens(C, "fill(" + more + ")", Twins::rich, row -> row.fill(more), -1);
    }
    Twins.nothingHappens(C, "fill(1) without a book", ErrataRow::new, row -> row.fill(1), -1);
    Twins.nothingHappens(C, "fill(99) without a book", ErrataRow::new, row -> row.fill(99), -1);
  }

  private static void undone() {
    C.says(14, "The last ACT is UNDONE: how many more can be;");
    C.says(0, "ACTS: an EDITION; SET (a LETTER is PUT otherwise, 0 to 7); MEND (a LETTER that is LOOSE is MENDED);");
    String[] names = {"edition()", "set(1, 6)", "mend(1)", "hang(1, 0)", "hang(2, 1)", "fill(9)"};
    Twins.Call[] acts = {ErrataRow::edition, row -> row.set(1, 6), row -> row.mend(row.count(7) == 0 ? 0 : lowest(row.count(7))),
        row -> row.hang(1, 0), row -> row.hang(2, 1), row -> row.fill(9)};
    for (int i = 0; i < acts.length; i++) {
      Twins.Call act = acts[i];
      ErrataRow row = Twins.rich();
      C.isTrue(names[i] + " is done", act.on(row) != -1);
      C.due(names[i] + ": acts", row.count(11), 6);
      C.due(names[i] + ", undone", row.undo(), 5);
      Twins.same(C, names[i] + ", undone", Twins::rich, () -> {
        ErrataRow other = Twins.rich();
        act.on(other);
        other.undo();
        return other;
      });
    }
  }

  private static int lowest(int bits) {
    return Integer.numberOfTrailingZeros(bits);
  }

  private static void undoneLastFirst() {
    C.says(0, "the last first.");
    ErrataRow row = Check.row("book 1 5;letter 0 1;letter 0 2");
    row.set(0, 3);
    row.fill(1);
    row.set(0, 4);
    row.mend(1);
    row.set(0, 5);
    C.due("undo() of set(0, 5)", row.undo(), 4);
    puts("then", row, 4, 2);
    C.due("undo() of mend(1)", row.undo(), 3);
    puts("then", row, 4, 0);
    C.due("undo() of set(0, 4)", row.undo(), 2);
    puts("then", row, 3, 0);
    C.due("purse", row.count(8), 6);
    C.due("undo() of fill(1)", row.undo(), 1);
    C.due("purse", row.count(8), 5);
    C.due("undo() of set(0, 3)", row.undo(), 0);
    puts("then", row, 0, 0);
    C.due("undo() of nothing", row.undo(), -1);
  }

  private static ErrataRow filled(int acts) {
    ErrataRow row = Check.row("book 1 0;letter 0 1");
    for (int i = 0; i < acts; i++) {
      row.fill(1);
    }
    return row;
  }

  private static void undoneTwenty() {
    C.says(0, "The last 20 can be UNDONE, the last first.");
    for (int acts = 0; acts <= 45; acts++) {
      ErrataRow row = filled(acts);
      int can = Math.min(acts, 20);
      C.due(acts + " acts", row.count(11), can);
      for (int left = can - 1; left >= 0; left--) {
        C.due("undo()", row.undo(), left);
        C.due("acts", row.count(11), left);
        C.due("purse", row.count(8), acts - can + left);
      }
      C.due("undo() of no more", row.undo(), -1);
      C.due("purse", row.count(8), acts - can);
    }
  }

  private static void undoneRound() {
    C.says(0, "The last 20 can be UNDONE, the last first.");
    // 25 acts, 10 undone, then again some: what can be undone is what is left and what is new, 20 at most.
    for (int again = 0; again <= 12; again++) {
      ErrataRow row = filled(25);
      for (int i = 0; i < 10; i++) {
        row.undo();
      }
      for (int i = 0; i < again; i++) {
        row.fill(1);
      }
      int can = Math.min(10 + again, 20);
      C.due("acts", row.count(11), can);
      for (int left = can - 1; left >= 0; left--) {
        C.due("undo()", row.undo(), left);
      }
      C.due("purse", row.count(8), 15 + again - can);
      C.due("undo() of no more", row.undo(), -1);
    }
  }

  private static void undoneAll() {
    C.says(0, "ACTS: an EDITION;");
    // Twenty editions, in which all that an edition changes is changed.
    String book = "book 2 15;letter 1 1;letter 2 3;letter 1 4;letter 5 5;habit 1 6;habit 0 0;habit 3 2;hangs 2 1";
    Twins.same(C, "twenty editions undone", () -> Check.row(book, "mend put"), () -> {
      ErrataRow row = Check.row(book, "mend put");
      for (int i = 0; i < 20; i++) {
        row.edition();
      }
      for (int i = 19; i >= 0; i--) {
        C.due("undo()", row.undo(), i);
      }
      return row;
    });
  }

  private static void undoRefused() {
    C.says(14, "NONE, and nothing happens: none can.");
    Twins.nothingHappens(C, "undo() without a book", ErrataRow::new, ErrataRow::undo, -1);
    Twins.nothingHappens(C, "undo() behind a book", () -> Check.row(TEN_WRONG), ErrataRow::undo, -1);
    Twins.nothingHappens(C, "undo() when all are undone", () -> {
      ErrataRow row = Twins.rich();
      for (int i = 0; i < 5; i++) {
        row.undo();
      }
      return row;
    }, ErrataRow::undo, -1);
    Twins.nothingHappens(C, "undo() when twenty of 21 are undone", () -> {
      ErrataRow row = filled(21);
      for (int i = 0; i < 20; i++) {
        row.undo();
      }
      return row;
    }, ErrataRow::undo, -1);
    Twins.nothingHappens(C, "undo() behind back", () -> {
      ErrataRow row = Twins.rich();
      row.back(2);
      return row;
    }, ErrataRow::undo, -1);
  }

  private static void notAnAct() {
    C.says(0, "ACTS: an EDITION; SET");
    ErrataRow row = Twins.rich();
    row.force(0);
    row.seed(9);
    row.note(1, 1, 1);
    row.note(-1, 0, 0);
    row.image(1);
    row.end(0);
    row.feed(0, 0, 0, 0, 0);
    row.book();
    Check.rule(row, "mend 1");
    row.edition();
    C.due("acts", row.count(11), 6);
    row.undo();
    C.due("in force stays", row.count(4), 0);
    C.due("x stays", row.count(12), 9);
    C.due("notes stay away", row.count(10), 0);
    C.due("rules stay", row.count(3), 4);
  }
}
