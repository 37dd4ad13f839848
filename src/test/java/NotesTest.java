/** Promises 26 (putAs), 30 (note), 31 (ruled), 32 (look). */
public final class NotesTest {
  private static final Check C = new Check();
  private static final String BOOK = "book 2 9;letter 1 1;letter 2 3;letter 1 4;letter 5 5;habit 1 6;habit 0 0;hangs 2 1";

  public static void main(String[] args) {
    notes();
    putAs();
    putAsBehindTheFirst();
    putAsBehindOneBetween();
    putAsBehindTheLast();
    ruled();
    ruledBehindTheFirst();
    ruledBehindOneBetween();
    ruledBehindTheLast();
    look();
    lookBehindTheFirst();
    lookBehindOneBetween();
    lookBehindTheLast();
    fromTheBegin();
    withoutABook();
    C.close();
  }

  private static void notes() {
    ErrataRow row = Check.row(BOOK);
    C.due("note(0, 0, 0)", row.note(0, 0, 0), 1);
    C.due("note(60, 3, 7)", row.note(60, 3, 7), 2);
    C.due("note(61, 0, 0)", row.note(61, 0, 0), -2);
    C.due("note(-2, 0, 0)", row.note(-2, 0, 0), -2);
    C.due("note(1, 4, 0)", row.note(1, 4, 0), -2);
    C.due("note(1, -1, 0)", row.note(1, -1, 0), -2);
    C.due("note(1, 0, 8)", row.note(1, 0, 8), -2);
    C.due("note(1, 0, -1)", row.note(1, 0, -1), -2);
    C.due("notes", row.count(10), 2);
    for (int i = 3; i <= 10; i++) {
      C.due("note " + i, row.note(0, 0, 0), i);
    }
    C.due("an eleventh", row.note(0, 0, 0), -2);
    C.due("notes", row.count(10), 10);
    C.due("acts", row.count(11), 0);
    C.due("note(NONE, ..)", row.note(-1, 99, 99), 0);
    C.due("notes", row.count(10), 0);
    C.due("note(NONE, ..) again", row.note(-1, 0, 0), 0);
    C.due("note", row.note(0, 0, 0), 1);
  }

  // BOOK, behind editions 0, 1, 2, 3 and then by turns as behind 2 and 3:
  // by none and by "mend 1"  6 3 1 5, 1 3 1 5, 6 3 4 5, 1 3 4 5;
  // by "mend letter"         6 3 1 5, 6 3 4 5 and so on;
  // by "mend 0"              6 2 1 5, 6 2 1 5, 6 2 6 5 and so on.

  private static void putAs() {
    ErrataRow row = Check.row(BOOK, "mend 0");
    row.force(-1);
    for (int i = 0; i < 4; i++) {
      C.due("putAs(" + i + ") without notes", row.putAs(i), 255);
    }
    row.note(0, 0, 1);
    // Put as 1 it is put as 6 by habit; otherwise it is mended.
    C.due("putAs(0)", row.putAs(0), 253);
    C.due("putAs(1)", row.putAs(1), 0);
    row.force(0);
    // Mended by nobody: only as it is, or as 1, which is put as 6 then.
    C.due("putAs(0) by the rule", row.putAs(0), 0);
    row.force(-1);
    row.note(-1, 0, 0);
    row.note(0, 0, 6);
    C.due("putAs(0)", row.putAs(0), 2);
    C.due("putAs(1)", row.putAs(1), 255);
    // Letter 2 is loose in edition 0 only if letter 1, on which it hangs, is right.
    row.note(0, 2, 4);
    C.due("putAs(1)", row.putAs(1), 8);
    row.note(0, 2, 1);
    C.due("putAs(1), against itself", row.putAs(1), 0);
    C.due("putAs(4)", row.putAs(4), -1);
    C.due("putAs(-1)", row.putAs(-1), -1);
  }

  private static void putAsBehindTheFirst() {
    ErrataRow row = Check.row("book 1 0;letter 0 1", "mend 1 if edition = 0");
    row.note(0, 0, 1);
    C.due("putAs, mended in edition 0", row.putAs(0), 255);
    row.note(0, 0, 5);
    C.due("putAs, mended in edition 0 and not", row.putAs(0), 0);
    // Behind edition 0 edition 1 has not been printed.
    row = Check.row("book 1 0;letter 0 1", "mend 1 if edition = 1");
    row.note(0, 0, 5);
    C.due("putAs, to be mended in edition 1", row.putAs(0), 32);
    // Its habit has been, too.
    row = Check.row("book 1 0;letter 0 1;habit 5 6;habit 6 7", "mend 0");
    row.note(0, 0, 6);
    C.due("putAs, by the habit of edition 0", row.putAs(0), 96);
  }

  private static void putAsBehindOneBetween() {
    ErrataRow row = Check.row("book 1 0;letter 0 1", "mend 1 if edition = 30");
    row.note(30, 0, 1);
    C.due("putAs behind 30", row.putAs(0), 255);
    row.note(29, 0, 5);
    C.due("putAs behind 29, too", row.putAs(0), 32);
    row.note(31, 0, 1);
    C.due("putAs behind 31, too", row.putAs(0), 32);
    row.note(30, 0, 5);
    C.due("putAs behind 30, no more", row.putAs(0), 0);
  }

  private static void putAsBehindTheLast() {
    ErrataRow row = Check.row("book 1 0;letter 0 1", "mend 1 if edition = 60", "mend 1 if edition = 61");
    row.note(60, 0, 1);
    C.due("putAs behind 60", row.putAs(0), 255);
    row.force(1);
    C.due("putAs behind 60, to be mended in 61", row.putAs(0), 2);
    row.force(0);
    row.note(59, 0, 5);
    C.due("putAs behind 59, too", row.putAs(0), 32);
    row.note(60, 0, 5);
    C.due("putAs behind 60, no more", row.putAs(0), 0);
  }

  private static void ruled() {
    ErrataRow row = Check.row(BOOK, "mend letter", "mend 1", "mend 0");
    C.due("without notes: how many", row.ruled(0), 4);
    C.due("without notes: the first", row.ruled(1), -1);
    row.note(0, 1, 3);
    C.due("one was mended: how many", row.ruled(0), 3);
    C.due("one was mended: the first", row.ruled(1), -1);
    row.note(1, 2, 4);
    C.due("the third one, too: how many", row.ruled(0), 1);
    C.due("the third one, too: the first", row.ruled(1), 0);
    row.note(0, 0, 0);
    C.due("by no rule: how many", row.ruled(0), 0);
    C.due("by no rule: the first", row.ruled(1), -2);
    row.note(-1, 0, 0);
    row.note(60, 1, 2);
    C.due("never mended: how many", row.ruled(0), 1);
    C.due("never mended: the first", row.ruled(1), 2);
    C.due("ruled(2)", row.ruled(2), -3);
    C.due("ruled(-1)", row.ruled(-1), -3);
    C.due("the rule in force stays", row.count(4), 0);
  }

  private static void dueRuled(String what, ErrataRow row, int many, int first) {
    C.due(what + ": how many", row.ruled(0), many);
    C.due(what + ": the first", row.ruled(1), first);
  }

  private static void ruledBehindTheFirst() {
    // The run of issue 5: by none the letter is mended in edition 0.
    ErrataRow row = Check.row("book 1 0;letter 1 2 ");
    row.note(0, 0, 1);
    dueRuled("not mended behind 0, no rules", row, 0, -2);
    row.note(-1, 0, 0);
    row.note(0, 0, 2);
    dueRuled("mended behind 0, no rules", row, 1, -1);
    row = Check.row("book 1 0;letter 1 2", "mend 1 if edition = 1", "mend 1 if edition = 0", "mend 0");
    row.note(0, 0, 1);
    dueRuled("not mended behind 0", row, 2, 0);
    row.note(-1, 0, 0);
    row.note(0, 0, 2);
    dueRuled("mended behind 0", row, 2, -1);
  }

  private static void ruledBehindOneBetween() {
    ErrataRow row = Check.row("book 1 0;letter 1 2", "mend 1 if edition = 31", "mend 1 if edition = 30",
        "mend 1 if edition = 29");
    row.note(30, 0, 1);
    dueRuled("not mended behind 30", row, 1, 0);
    row.note(-1, 0, 0);
    row.note(30, 0, 2);
    dueRuled("mended behind 30", row, 3, -1);
    row.note(29, 0, 1);
    dueRuled("mended behind 30, not behind 29", row, 1, 1);
  }

  private static void ruledBehindTheLast() {
    ErrataRow row = Check.row("book 1 0;letter 1 2", "mend 1 if edition = 61", "mend 1 if edition = 60",
        "mend 1 if edition = 59");
    row.note(60, 0, 1);
    dueRuled("not mended behind 60", row, 1, 0);
    row.note(-1, 0, 0);
    row.note(60, 0, 2);
    dueRuled("mended behind 60", row, 3, -1);
    row.note(59, 0, 1);
    dueRuled("mended behind 60, not behind 59", row, 1, 1);
  }

  private static void dueLook(String what, ErrataRow row, int n, int letter, int many) {
    C.due(what + ": look(" + n + ", 0)", row.look(n, 0), letter);
    C.due(what + ": look(" + n + ", 1)", row.look(n, 1), many);
  }

  private static void look() {
    ErrataRow row = Check.row(BOOK, "mend letter", "mend 1", "mend 0");
    row.note(0, 1, 3);
    dueLook("of three", row, 0, 0, 3);
    dueLook("of three", row, 1, 0, 2);
    dueLook("of three", row, 2, 0, 3);
    dueLook("of three", row, 59, 0, 2);
    dueLook("of three", row, 60, 0, 3);
    dueLook("n too great", row, 61, -1, -1);
    dueLook("n below 0", row, -1, -1, -1);
    C.due("look(0, 2)", row.look(0, 2), -1);
    C.due("look(0, -1)", row.look(0, -1), -1);
    row.note(-1, 0, 0);
    // All four, behind edition 1: of letter 1 three are alike, of 2 too; letter 0 is 1, 6, 1, 6.
    dueLook("of four", row, 1, 0, 2);
    // Behind edition 0 letter 1 alone parts them.
    dueLook("of four", row, 0, 1, 3);
    row.note(0, 0, 0);
    dueLook("none is so", row, 2, -2, -2);
    row = Check.row("book 1 0", "mend 1");
    dueLook("no letters", row, 2, -2, -2);
    // No rule is told: by none all is as it is.
    row = Check.row("book 1 0;letter 0 1");
    dueLook("no rules", row, 2, 0, 1);
  }

  private static void lookBehindTheFirst() {
    // The run of issue 6: by none the letter is mended in edition 0.
    ErrataRow row = Check.row("book 1 0;letter 1 2 ", "mend 0              ");
    dueLook("mended or never", row, 0, 0, 1);
    // Letter 0 is always right: letter 1 parts them behind edition 0, and behind edition 1 nothing does.
    row = Check.row("book 1 0;letter 3 3;letter 1 2", "mend 1 if edition = 1");
    dueLook("mended in 0 or 1", row, 0, 1, 1);
    dueLook("mended in 0 or 1", row, 1, 0, 2);
  }

  private static void lookBehindOneBetween() {
    ErrataRow row = Check.row("book 1 0;letter 3 3;letter 1 2", "mend 1 if edition = 30",
        "mend 1 if edition = 31");
    // By none it is mended in edition 0: that one is ruled out.
    row.note(0, 1, 1);
    dueLook("mended in 30 or 31", row, 29, 0, 2);
    dueLook("mended in 30 or 31", row, 30, 1, 1);
    dueLook("mended in 30 or 31", row, 31, 0, 2);
  }

  private static void lookBehindTheLast() {
    ErrataRow row = Check.row("book 1 0;letter 3 3;letter 1 2", "mend 1 if edition = 60",
        "mend 1 if edition = 61");
    row.note(0, 1, 1);
    dueLook("mended in 60 or 61", row, 59, 0, 2);
    dueLook("mended in 60 or 61", row, 60, 1, 1);
  }

  private static void fromTheBegin() {
    ErrataRow row = Check.row(BOOK, "mend letter", "mend 1", "mend 0");
    row.note(1, 2, 4);
    int putAs = row.putAs(0);
    // What was done by hand does not count: all is asked as the text told it.
    row.edition();
    row.set(2, 7);
    row.hang(2, 1);
    row.hang(1, 0);
    row.fill(9);
    C.due("ruled(0)", row.ruled(0), 1);
    C.due("ruled(1)", row.ruled(1), 0);
    C.due("putAs(0)", row.putAs(0), putAs);
    C.due("look(1, 1)", row.look(1, 1), 1);
    C.due("edition", row.count(5), 1);
    C.due("put", row.letter(2, 0), 7);
    C.due("acts", row.count(11), 5);
  }

  private static void withoutABook() {
    ErrataRow row = new ErrataRow();
    Check.rule(row, "mend 1");
    C.due("note", row.note(0, 0, 0), -2);
    C.due("note(NONE, ..)", row.note(-1, 0, 0), 0);
    C.due("putAs", row.putAs(0), -1);
    C.due("ruled", row.ruled(0), -3);
    C.due("look", row.look(0, 0), -1);
  }
}
