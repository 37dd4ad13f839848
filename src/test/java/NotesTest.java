/** Promises 26 (putAs), 30 (note), 31 (ruled), 32 (look). */
public final class NotesTest {
  private static final Check C = new Check();
  private static final String BOOK = "book 2 9;letter 1 1;letter 2 3;letter 1 4;letter 5 5;habit 1 6;habit 0 0;hangs 2 1";

  public static void main(String[] args) {
    notes();
    putAs();
    ruled();
    look();
    fromTheBegin();
    withoutABook();
    C.close();
  }

  private static void notes() {
    ErrataRow row = Check.row(BOOK);
    C.due("note(0, 0, 0)", row.note(0, 0, 0), 1);
    C.due("note(60, 3, 7)", row.note(60, 3, 7), 2);
    C.due("note(61, 0, 0)", row.note(61, 0, 0), -2);
    C.due("note(-2, 0, 0)", row.note(-2, 0, 0), -2);
    C.due("note(1, 4, 0)", row.note(1, 4, 0), -2);
    C.due("note(1, -1, 0)", row.note(1, -1, 0), -2);
    C.due("note(1, 0, 8)", row.note(1, 0, 8), -2);
    C.due("note(1, 0, -1)", row.note(1, 0, -1), -2);
    C.due("notes", row.count(10), 2);
    for (int i = 3; i <= 10; i++) {
      C.due("note " + i, row.note(0, 0, 0), i);
    }
    C.due("an eleventh", row.note(0, 0, 0), -2);
    C.due("notes", row.count(10), 10);
    C.due("acts", row.count(11), 0);
    C.due("note(NONE, ..)", row.note(-1, 99, 99), 0);
    C.due("notes", row.count(10), 0);
    C.due("note(NONE, ..) again", row.note(-1, 0, 0), 0);
    C.due("note", row.note(0, 0, 0), 1);
  }

  private static void putAs() {
    ErrataRow row = Check.row(BOOK, "mend 0");
    row.force(-1);
    for (int i = 0; i < 4; i++) {
      C.due("putAs(" + i + ") without notes", row.putAs(i), 255);
    }
    row.note(1, 0, 1);
    // Put as 1 it is put as 6 by habit; otherwise it is mended.
    C.due("putAs(0)", row.putAs(0), 253);
    C.due("putAs(1)", row.putAs(1), 0);
    row.force(0);
    // Mended by nobody: only as it is, or as 1, which is put as 6 then.
    C.due("putAs(0) by the rule", row.putAs(0), 0);
    row.force(-1);
    row.note(-1, 0, 0);
    row.note(1, 0, 6);
    C.due("putAs(0)", row.putAs(0), 2);
    C.due("putAs(1)", row.putAs(1), 255);
    row.note(0, 1, 2);
    C.due("putAs(1)", row.putAs(1), 4);
    row.note(0, 1, 3);
    C.due("putAs(1), against itself", row.putAs(1), 0);
    C.due("putAs(4)", row.putAs(4), -1);
    C.due("putAs(-1)", row.putAs(-1), -1);
    // Behind the sixtieth edition, and not one edition sooner or later.
    row = Check.row("book 1 0;letter 0 1", "mend 1 if edition = 59");
    row.note(59, 0, 5);
    C.due("putAs behind 59", row.putAs(0), 32);
    row.note(60, 0, 1);
    C.due("putAs behind 60", row.putAs(0), 32);
    row.note(60, 0, 5);
    C.due("putAs, no more", row.putAs(0), 0);
  }

  private static void ruled() {
    ErrataRow row = Check.row(BOOK, "mend letter", "mend 1", "mend 0");
    C.due("without notes: how many", row.ruled(0), 4);
    C.due("without notes: the first", row.ruled(1), -1);
    row.note(1, 1, 3);
    C.due("one was mended: how many", row.ruled(0), 3);
    C.due("one was mended: the first", row.ruled(1), -1);
    row.note(2, 2, 4);
    C.due("the third one, too: how many", row.ruled(0), 1);
    C.due("the third one, too: the first", row.ruled(1), 0);
    row.note(0, 0, 0);
    C.due("not at the begin: how many", row.ruled(0), 0);
    C.due("not at the begin: the first", row.ruled(1), -2);
    row.note(-1, 0, 0);
    row.note(60, 1, 2);
    C.due("never mended: how many", row.ruled(0), 1);
    C.due("never mended: the first", row.ruled(1), 2);
    C.due("ruled(2)", row.ruled(2), -3);
    C.due("ruled(-1)", row.ruled(-1), -3);
    C.due("the rule in force stays", row.count(4), 0);
  }

  private static void look() {
    ErrataRow row = Check.row(BOOK, "mend letter", "mend 1", "mend 0");
    row.note(1, 1, 3);
    C.due("look(2, 0)", row.look(2, 0), 0);
    C.due("look(2, 1)", row.look(2, 1), 2);
    C.due("look(0, 0)", row.look(0, 0), 0);
    C.due("look(0, 1)", row.look(0, 1), 3);
    C.due("look(60, 1)", row.look(60, 1) > 0 ? 1 : 0, 1);
    C.due("look(61, 0)", row.look(61, 0), -1);
    C.due("look(-1, 0)", row.look(-1, 0), -1);
    C.due("look(0, 2)", row.look(0, 2), -1);
    C.due("look(0, -1)", row.look(0, -1), -1);
    row.note(-1, 0, 0);
    // All four: of letter 1 three are alike, of 2 too; letter 0 is 1, 6, 1, 6.
    C.due("of four: look(2, 0)", row.look(2, 0), 0);
    C.due("of four: look(2, 1)", row.look(2, 1), 2);
    // Behind the first edition letter 1 alone parts them.
    C.due("of four: look(1, 0)", row.look(1, 0), 1);
    C.due("of four: look(1, 1)", row.look(1, 1), 3);
    row.note(0, 0, 0);
    C.due("none is so: look(2, 0)", row.look(2, 0), -2);
    C.due("none is so: look(2, 1)", row.look(2, 1), -2);
    row = Check.row("book 1 0", "mend 1");
    C.due("no letters: look(2, 0)", row.look(2, 0), -2);
    C.due("no letters: look(2, 1)", row.look(2, 1), -2);
    // No rule is told: by none all is as it is.
    row = Check.row("book 1 0;letter 0 1");
    C.due("no rules: look(2, 0)", row.look(2, 0), 0);
    C.due("no rules: look(2, 1)", row.look(2, 1), 1);
  }

  private static void fromTheBegin() {
    ErrataRow row = Check.row(BOOK, "mend letter", "mend 1", "mend 0");
    row.note(2, 2, 4);
    int putAs = row.putAs(0);
    // What was done by hand does not count: all is asked as the text told it.
    row.edition();
    row.set(2, 7);
    row.hang(2, 1);
    row.hang(1, 0);
    row.fill(9);
    C.due("ruled(0)", row.ruled(0), 1);
    C.due("ruled(1)", row.ruled(1), 0);
    C.due("putAs(0)", row.putAs(0), putAs);
    C.due("look(2, 1)", row.look(2, 1), 1);
    C.due("edition", row.count(5), 1);
    C.due("put", row.letter(2, 0), 7);
    C.due("acts", row.count(11), 5);
  }

  private static void withoutABook() {
    ErrataRow row = new ErrataRow();
    Check.rule(row, "mend 1");
    C.due("note", row.note(0, 0, 0), -2);
    C.due("note(NONE, ..)", row.note(-1, 0, 0), 0);
    C.due("putAs", row.putAs(0), -1);
    C.due("ruled", row.ruled(0), -3);
    C.due("look", row.look(0, 0), -1);
  }
}
