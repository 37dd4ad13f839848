/** The boundaries of PUT AS, NOTES, RULED and LOOK: promises 26 (putAs), 30 (note), 31 (ruled) and 32 (look). */
public final class NotesEdgesTest {
  private static final Check C = new Check();
  private static final int LEAST = Integer.MIN_VALUE;
  private static final int MOST = Integer.MAX_VALUE;
  private static final String ONE_WRONG = "book 1 0;letter 0 1";

  public static void main(String[] args) {
    tenNotes();
    notesTaken();
    notesBehindEditions();
    noneThen();
    notesRefused();
    putAsEach();
    putAsInPlace();
    putAsByTheRuleInForce();
    putAsRefused();
    ruledNoneToSix();
    ruledTheFirst();
    ruledFromTheBegin();
    ruledRefused();
    lookBehind();
    lookPartsBest();
    lookOfSeveral();
    lookOfNone();
    lookRefused();
    C.close();
  }

  private static void tenNotes() {
    C.says(0, "NOTES 0 to 9, told:");
    C.says(30, "A NOTE (n NONE: there are none then, 0): how many;");
    for (int wrong = 0; wrong <= 9; wrong++) {
      // Each of ten notes counts: all but one are so.
      ErrataRow row = Check.row("book 1 0;letter 3 3");
      for (int i = 0; i <= 9; i++) {
        C.due("note " + i, row.note(i, 0, i == wrong ? 4 : 3), i + 1);
        C.due("notes", row.count(10), i + 1);
        C.due("ruled(0) behind note " + i, row.ruled(0), i >= wrong ? 0 : 1);
        C.due("putAs(0) behind note " + i, row.putAs(0), i >= wrong ? 0 : 255);
      }
    }
    // The same one ten times is ten.
    ErrataRow row = Check.row("book 1 0;letter 3 3");
    for (int i = 1; i <= 10; i++) {
      C.due("note(60, 0, 3)", row.note(60, 0, 3), i);
    }
    C.due("ruled(0)", row.ruled(0), 1);
    C.due("it is no act", row.count(11), 0);
  }

  private static void notesTaken() {
    C.says(0, "behind the n-th EDITION of all (0 to 60) a LETTER was PUT so (0 to 7).");
    for (int letter = 0; letter <= 9; letter++) {
      for (int put = 0; put <= 7; put++) {
        ErrataRow row = Check.row("book 1 0" + (";letter " + put + " " + put).repeat(10));
        C.due("note(0, " + letter + ", " + put + ")", row.note(0, letter, put), 1);
        C.due("note(60, " + letter + ", " + put + ")", row.note(60, letter, put), 2);
        C.due("they are so", row.ruled(0), 1);
        C.due("note(60, " + letter + ", another)", row.note(60, letter, 7 - put), 3);
        C.due("this one is not", row.ruled(0), 0);
      }
    }
  }

  private static void notesBehindEditions() {
    C.says(0, "behind the n-th EDITION of all (0 to 60)");
    int[] editions = {0, 1, 30, 59, 60};
    for (int edition : editions) {
      // Mended in the n-th edition, so behind it, but not behind the one ahead of it.
      ErrataRow row = Check.row(ONE_WRONG, "mend 1 if edition = " + edition);
      row.note(edition, 0, 1);
      C.due("mended behind " + edition, row.putAs(0), 255);
      row.note(-1, 0, 0);
      row.note(edition, 0, 0);
      C.due("not so behind " + edition, row.putAs(0), 0);
      if (edition > 0) {
        row.note(-1, 0, 0);
        row.note(edition - 1, 0, 0);
        C.due("not mended behind " + (edition - 1), row.putAs(0), 1);
      }
      if (edition < 60) {
        row.note(-1, 0, 0);
        row.note(edition + 1, 0, 1);
        C.due("mended behind " + (edition + 1), row.putAs(0), 255);
      }
    }
    ErrataRow row = Check.row(ONE_WRONG, "mend 1 if edition = 61");
    row.note(60, 0, 0);
    C.due("not mended behind 60", row.putAs(0), 1);
    // Of all editions, in whatever edition it is told.
    row = Check.row(ONE_WRONG, "mend 1 if edition = 2");
    for (int i = 0; i < 5; i++) {
      row.edition();
    }
    row.note(1, 0, 0);
    row.note(2, 0, 1);
    C.due("told in edition 5", row.putAs(0), 1);
  }

  private static void noneThen() {
    C.says(30, "(n NONE: there are none then, 0)");
    for (int many = 0; many <= 10; many++) {
      ErrataRow row = Check.row("book 1 0;letter 3 3");
      for (int i = 0; i < many; i++) {
        row.note(0, 0, 4);
      }
      C.due("note(NONE, ..) of " + many, row.note(-1, 0, 0), 0);
      C.due("notes", row.count(10), 0);
      C.due("putAs(0)", row.putAs(0), 255);
      C.due("a note then", row.note(0, 0, 3), 1);
      C.due("ruled(0)", row.ruled(0), 1);
    }
    // The letter and the put are not asked for, nor is a book.
    int[] others = {-1, 0, 5, 8, 10, LEAST, MOST};
    for (int other : others) {
      C.due("note(NONE, " + other + ", 0)", Twins.rich().note(-1, other, 0), 0);
      C.due("note(NONE, 0, " + other + ")", Twins.rich().note(-1, 0, other), 0);
    }
    Twins.nothingHappens(C, "note(NONE, 0, 0) without a book", ErrataRow::new, row -> row.note(-1, 0, 0), 0);
    Twins.nothingHappens(C, "note(NONE, 0, 0) of none", () -> Check.row(ONE_WRONG), row -> row.note(-1, 0, 0), 0);
    // Only the notes are none then.
    Twins.same(C, "note(NONE, 0, 0)", () -> {
      ErrataRow row = Check.row(ONE_WRONG, "mend 1");
      row.edition();
      row.seed(3);
      return row;
    }, () -> {
      ErrataRow row = Check.row(ONE_WRONG, "mend 1");
      row.edition();
      row.seed(3);
      row.note(4, 0, 4);
      row.note(-1, 0, 0);
      return row;
    });
  }

  private static ErrataRow withTenNotes() {
    ErrataRow row = Twins.rich();
    for (int i = 2; i < 10; i++) {
      row.note(i, i % 5, i % 8);
    }
    return row;
  }

  private static void notesRefused() {
    C.says(30, "-2, and nothing happens, without these, or if there are 10.");
    int[][] refused = {{-2, 0, 0}, {-3, 0, 0}, {61, 0, 0}, {62, 0, 0}, {LEAST, 0, 0}, {MOST, 0, 0}, {0, -1, 0}, {0, 5, 0},
        {60, 9, 0}, {0, 10, 0}, {0, LEAST, 0}, {0, MOST, 0}, {0, 0, -1}, {0, 0, 8}, {60, 4, 9}, {0, 0, LEAST}, {0, 0, MOST},
        {61, 5, 8}};
    for (int[] note : refused) {
      String call = "note(" + note[0] + ", " + note[1] + ", " + note[2] + ")";
      Twins.nothingHappens(C, call + " of five", Twins::rich, row -> row.note(note[0], note[1], note[2]), -2);
      C.due(call + " if there are 10", withTenNotes().note(note[0], note[1], note[2]), -2);
    }
    C.due("note(60, 4, 7) of five", Twins.rich().note(60, 4, 7), 3);
    C.due("there are 10", withTenNotes().count(10), 10);
    Twins.nothingHappens(C, "an eleventh note", NotesEdgesTest::withTenNotes, row -> row.note(0, 0, 0), -2);
    Twins.nothingHappens(C, "an eleventh note", NotesEdgesTest::withTenNotes, row -> row.note(60, 4, 7), -2);
    Twins.nothingHappens(C, "note(0, 0, 0) without a book", ErrataRow::new, row -> row.note(0, 0, 0), -2);
    Twins.nothingHappens(C, "note(0, 0, 0) without letters", () -> Check.row("book 1 0"), row -> row.note(0, 0, 0), -2);
    C.due("note(0, 10, 0) of ten", Check.row("book 1 0" + ";letter 0 0".repeat(10)).note(0, 10, 0), -2);
  }

  private static void putAsEach() {
    C.says(0, "PUT AS of a LETTER: 0 to 7 as what it can have been PUT");
    C.says(26, "PUT AS, as bits;");
    for (int letter = 0; letter <= 9; letter++) {
      ErrataRow row = Check.row("book 1 0" + ";letter 2 3".repeat(10), "mend 0");
      C.due("putAs(" + letter + ") without notes", row.putAs(letter), 255);
      for (int put = 0; put <= 7; put++) {
        row.note(-1, 0, 0);
        row.note(17, letter, put);
        C.due("as " + put, row.putAs(letter), 1 << put);
        C.due("any, or none, of another one", row.putAs((letter + 1) % 10), put == 2 ? 255 : 0);
      }
    }
    // Two notes that can't both be.
    ErrataRow row = Check.row("book 1 0;letter 2 3", "mend 0");
    row.note(0, 0, 4);
    row.note(1, 0, 5);
    C.due("as nothing", row.putAs(0), 0);
    // Several: 1 and 2 are put as 2, and as 2 then.
    row = Check.row("book 1 0;letter 2 3;habit 1 2", "mend 0");
    row.note(0, 0, 2);
    C.due("as 1 or 2", row.putAs(0), 6);
  }

  private static void putAsInPlace() {
    C.says(0, "in place of what the text told, so that from the begin on, by the RULE IN FORCE, all else as the text told"
        + " it, all NOTES are so, as bits.");
    // Letter 1 hangs on letter 0: only if that one is right at the begin is letter 1 mended in edition 0.
    String book = "book 1 0;letter 0 4;letter 0 5;hangs 1 0";
    ErrataRow row = Check.row(book);
    row.note(0, 1, 5);
    C.due("putAs(0)", row.putAs(0), 16);
    C.due("putAs(1), which is not mended, so as 5", row.putAs(1), 32);
    row.note(-1, 0, 0);
    row.note(1, 1, 5);
    C.due("putAs(0) behind 1", row.putAs(0), 255);
    // By hand nothing of this changes.
    row.note(-1, 0, 0);
    row.note(0, 1, 5);
    row.set(0, 4);
    row.set(1, 3);
    row.hang(1, 0);
    row.fill(9);
    row.edition();
    C.due("putAs(0), later", row.putAs(0), 16);
    C.due("putAs(1), later", row.putAs(1), 32);
    // The purse is that of the text, too.
    row = Check.row("book 1 5;letter 0 4", "mend 1 if purse = 5 and owed = 0 and paid = 0");
    row.note(0, 0, 4);
    C.due("by the purse of the text", row.putAs(0), 255);
    row.fill(1);
    C.due("by the purse of the text, filled", row.putAs(0), 255);
  }

  private static void putAsByTheRuleInForce() {
    C.says(0, "by the RULE IN FORCE, all else as the text told it");
    ErrataRow row = Check.row(ONE_WRONG, "mend 0", "mend 1 if put = 6", "mend 1");
    row.note(0, 0, 1);
    C.due("by rule 0", row.putAs(0), 2);
    row.force(1);
    C.due("by rule 1", row.putAs(0), 66);
    row.force(2);
    C.due("by rule 2", row.putAs(0), 255);
    row.force(-1);
    C.due("by none", row.putAs(0), 255);
    C.due("none is in force then", row.count(4), -1);
  }

  private static void putAsRefused() {
    C.says(26, "NONE without that LETTER.");
    int[] letters = {-1, 5, 9, 10, LEAST, MOST};
    for (int letter : letters) {
      Twins.nothingHappens(C, "putAs(" + letter + ") of five", Twins::rich, row -> row.putAs(letter), -1);
    }
    C.isTrue("putAs(4) of five", Twins.rich().putAs(4) >= 0);
    C.due("putAs(10) of ten", Check.row("book 1 0" + ";letter 0 0".repeat(10)).putAs(10), -1);
    C.due("putAs(0) without letters", Check.row("book 1 0").putAs(0), -1);
    Twins.nothingHappens(C, "putAs(0) without a book", ErrataRow::new, row -> row.putAs(0), -1);
  }

  private static void dueRuled(String what, ErrataRow row, int many, int first) {
    C.due(what + ": ruled(0)", row.ruled(0), many);
    C.due(what + ": ruled(1)", row.ruled(1), first);
  }

  private static ErrataRow byRules(String book, int rules, String rule) {
    ErrataRow row = Check.row(book);
    for (int i = 0; i < rules; i++) {
      Check.rule(row, rule);
    }
    return row;
  }

  private static void ruledNoneToSix() {
    C.says(0, "RULED: which of the RULES, and of none, so that from the begin on, all as the text told it, all NOTES are so:"
        + " how many;");
    C.says(31, "RULED what 0: how many, 1: the first (NONE: none; -2: there is none such).");
    for (int rules = 0; rules <= 6; rules++) {
      ErrataRow row = byRules(ONE_WRONG, rules, "mend 0");
      dueRuled(rules + " rules, no notes", row, rules + 1, -1);
      row.note(0, 0, 0);
      dueRuled(rules + " rules, not mended", row, rules, rules == 0 ? -2 : 0);
      row.note(-1, 0, 0);
      row.note(0, 0, 1);
      dueRuled(rules + " rules, mended", row, 1, -1);
      row.note(0, 0, 0);
      dueRuled(rules + " rules, both", row, 0, -2);
      dueRuled(rules + " rules, without letters", byRules("book 1 0", rules, "mend 0"), rules + 1, -1);
    }
  }

  private static void ruledTheFirst() {
    C.says(0, "how many; the first (none ahead of 0, told as NONE).");
    for (int so = 0; so <= 5; so++) {
      // Only one of six rules mends the letter in edition 1.
      ErrataRow row = byRules(ONE_WRONG, so, "mend 0");
      Check.rule(row, "mend 1 if edition = 1");
      for (int i = so + 1; i <= 5; i++) {
        Check.rule(row, "mend 0");
      }
      C.due("rules", row.count(3), 6);
      row.note(1, 0, 1);
      dueRuled("none and rule " + so, row, 2, -1);
      row.note(0, 0, 0);
      dueRuled("rule " + so + " alone", row, 1, so);
      row.note(-1, 0, 0);
      row.note(0, 0, 0);
      dueRuled("all but none", row, 6, 0);
      row.note(1, 0, 0);
      dueRuled("all but none and rule " + so, row, 5, so == 0 ? 1 : 0);
      // Which one is in force is not asked.
      for (int force = -1; force <= 5; force++) {
        row.force(force);
        dueRuled("rule " + force + " in force", row, 5, so == 0 ? 1 : 0);
      }
    }
  }

  private static void ruledFromTheBegin() {
    C.says(0, "so that from the begin on, all as the text told it");
    ErrataRow row = Check.row("book 1 3;letter 0 1;letter 0 1;hangs 1 0", "mend 1 if purse = 3 and letter = 0", "mend 0");
    row.note(0, 0, 1);
    row.note(0, 1, 0);
    dueRuled("at first", row, 2, -1);
    row.fill(5);
    row.set(0, 7);
    row.set(1, 1);
    row.hang(1, 0);
    row.edition();
    dueRuled("later", row, 2, -1);
    row.note(3, 1, 0);
    dueRuled("none mends the second one in edition 1, rule 0 never", row, 1, 0);
  }

  private static void ruledRefused() {
    C.says(31, "-3 for others, or without a BOOK.");
    int[] whats = {-1, 2, 3, LEAST, MOST};
    for (int what : whats) {
      Twins.nothingHappens(C, "ruled(" + what + ")", Twins::rich, row -> row.ruled(what), -3);
      C.due("ruled(" + what + ") without a book", new ErrataRow().ruled(what), -3);
    }
    Twins.nothingHappens(C, "ruled(0) without a book", ErrataRow::new, row -> row.ruled(0), -3);
    Twins.nothingHappens(C, "ruled(1) without a book", ErrataRow::new, row -> row.ruled(1), -3);
    ErrataRow row = new ErrataRow();
    Check.rule(row, "mend 1");
    C.due("ruled(0) without a book, with a rule", row.ruled(0), -3);
  }

  private static void dueLook(String what, ErrataRow row, int n, int letter, int many) {
    C.due(what + ": look(" + n + ", 0)", row.look(n, 0), letter);
    C.due(what + ": look(" + n + ", 1)", row.look(n, 1), many);
  }

  private static void lookBehind() {
    C.says(0, "LOOK behind the n-th EDITION:");
    C.says(32, "LOOK (n 0 to 60) what 0: the LETTER, 1: how many;");
    // Letter 1 is mended in edition 0 by none, and in the n-th one by the rule: that parts them until then.
    int[] editions = {1, 2, 30, 59, 60};
    for (int edition : editions) {
      ErrataRow row = Check.row("book 1 0;letter 3 3;letter 1 2", "mend 1 if edition = " + edition);
      dueLook("mended in " + edition, row, 0, 1, 1);
      dueLook("mended in " + edition, row, edition - 1, 1, 1);
      dueLook("mended in " + edition, row, edition, 0, 2);
    }
    dueLook("mended in 61", Check.row("book 1 0;letter 3 3;letter 1 2", "mend 1 if edition = 61"), 60, 1, 1);
    dueLook("mended in 0, too", Check.row("book 1 0;letter 3 3;letter 1 2", "mend 1"), 0, 0, 2);
    // From the begin on, as the text told it, in whatever edition it is asked, by whatever rule in force.
    ErrataRow row = Check.row("book 1 0;letter 3 3;letter 1 2", "mend 1 if edition = 2");
    row.edition();
    row.edition();
    row.edition();
    row.set(0, 6);
    dueLook("asked in 3", row, 1, 1, 1);
    dueLook("asked in 3", row, 2, 0, 2);
    row.force(-1);
    dueLook("asked in 3, none in force", row, 1, 1, 1);
  }

  /**
   * Seven ways for letter 9: habit i puts i as i + 1, so in the n-th edition it is put as n + 1. But rule i mends letter
   * 3 + i, put as 1 + i then, so that the press has that one in edition 1 + i, and letter 9 stays as it is. By none
   * letters 0 to 6 are mended one by one, each of them too late for that.
   */
  private static ErrataRow sevenWays() {
    ErrataRow row = Check.row("book 1 0" + ";letter 7 0".repeat(3) + ";letter 7 1;letter 7 2;letter 7 3;letter 7 4;letter 7 5;"
        + "letter 7 6;letter 0 0;habit 0 1;habit 1 2;habit 2 3;habit 3 4;habit 4 5;habit 5 6;habit 6 7");
    for (int i = 0; i <= 5; i++) {
      Check.rule(row, "mend 1 if letter = 3 + " + i);
    }
    return row;
  }

  private static void lookPartsBest() {
    C.says(0, "the LETTER by as what it is PUT these part best: the most alike are fewest");
    ErrataRow row = sevenWays();
    dueRuled("seven", row, 7, -1);
    // Behind 0 and 1 all but one are alike, at best.
    dueLook("seven", row, 0, 0, 6);
    dueLook("seven", row, 1, 0, 6);
    for (int n = 2; n <= 6; n++) {
      dueLook("seven", row, n, 9, 7 - n);
    }
    // Of all that are so by the notes, and of these alone.
    row.note(6, 9, 7);
    dueRuled("none alone", row, 1, -1);
    dueLook("none alone", row, 6, 0, 1);
    row.note(-1, 0, 0);
    row.note(3, 9, 4);
    dueRuled("four: none and the last three rules", row, 4, -1);
    dueLook("four", row, 6, 9, 1);
    dueLook("four", row, 5, 9, 2);
    dueLook("four, parted by 0 as well as by 9", row, 4, 0, 3);
    row.note(-1, 0, 0);
    row.note(0, 0, 7);
    dueRuled("six rules, and not none", row, 6, 0);
    dueLook("six", row, 6, 9, 1);
    dueLook("six", row, 0, 3, 5);
    dueLook("six", row, 5, 9, 1);
    dueLook("six", row, 4, 9, 2);
  }

  private static void lookOfSeveral() {
    C.says(0, "of several the least; how many.");
    // By none letter 0 is mended in edition 0; by the rules one of the others.
    ErrataRow row = Check.row("book 1 0" + ";letter 0 1".repeat(10), "mend 1 if letter = 9", "mend 1 if letter = 8");
    dueLook("three, each of which parts one", row, 0, 0, 2);
    row.note(0, 0, 0);
    dueLook("two, and 8 is the least that parts them", row, 0, 8, 1);
    row.note(0, 8, 0);
    dueLook("one: the least of all", row, 0, 0, 1);
    // One letter alone parts them, as 0 and 7, between others that are put as 0 or as 7.
    for (int letter = 0; letter <= 9; letter++) {
      for (int put = 0; put <= 7; put += 7) {
        String others = ";letter " + put + " " + put;
        row = Check.row("book 1 0" + others.repeat(letter) + ";letter 0 7" + others.repeat(9 - letter), "mend 0");
        dueLook("by " + letter, row, 0, letter, 1);
      }
    }
    // Nothing parts them: the least of all, and all are alike.
    for (int rules = 0; rules <= 6; rules++) {
      dueLook("alike", byRules(ONE_WRONG + ";letter 0 1", rules, "mend 1"), 60, 0, rules + 1);
    }
  }

  private static void lookOfNone() {
    C.says(32, "-2: no RULE is so, or there are no LETTERS.");
    ErrataRow row = Check.row(ONE_WRONG, "mend 0");
    row.note(0, 0, 5);
    int[] ns = {0, 1, 60};
    for (int n : ns) {
      dueLook("none is so", row, n, -2, -2);
      dueLook("no letters", Check.row("book 1 0"), n, -2, -2);
      dueLook("no letters", Check.row("book 1 0", "mend 1"), n, -2, -2);
    }
    // None is so, though no rule is.
    row = Check.row(ONE_WRONG, "mend 0");
    row.note(0, 0, 1);
    dueLook("none alone", row, 0, 0, 1);
  }

  private static void lookRefused() {
    C.says(32, "NONE without these, or a BOOK.");
    int[] ns = {-1, -2, 61, 62, LEAST, MOST};
    for (int n : ns) {
      for (int what = 0; what <= 1; what++) {
        int of = what;
        Twins.nothingHappens(C, "look(" + n + ", " + of + ")", Twins::rich, row -> row.look(n, of), -1);
        C.due("look(" + n + ", " + of + ") without letters", Check.row("book 1 0").look(n, of), -1);
      }
    }
    int[] whats = {-1, 2, 3, LEAST, MOST};
    for (int what : whats) {
      Twins.nothingHappens(C, "look(0, " + what + ")", Twins::rich, row -> row.look(0, what), -1);
      C.due("look(60, " + what + ") without letters", Check.row("book 1 0").look(60, what), -1);
    }
    Twins.nothingHappens(C, "look(0, 0) without a book", ErrataRow::new, row -> row.look(0, 0), -1);
    Twins.nothingHappens(C, "look(60, 1) without a book", ErrataRow::new, row -> row.look(60, 1), -1);
  }
}
