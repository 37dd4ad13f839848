/** The boundaries of IMAGES: promises 36 (image) and 37 (back). */
public final class ImagesEdgesTest {
  private static final Check C = new Check();
  private static final int LEAST = Integer.MIN_VALUE;
  private static final int MOST = Integer.MAX_VALUE;

  public static void main(String[] args) {
    fourImages();
    imageChangesNothing();
    imageRefused();
    allIsAsItWas();
    tapeAndRulesStay();
    theImageStays();
    notesOfAnImage();
    madeAnew();
    nothingCanBeUndone();
    withoutABook();
    backRefused();
    C.close();
  }

  private static void fourImages() {
    C.says(0, "IMAGES 0 to 3:");
    C.says(36, "An IMAGE is made: EDITION;");
    C.says(37, "All is as in an IMAGE: EDITION;");
    ErrataRow row = Check.row("book 1 9" + ";letter 0 1".repeat(5));
    for (int k = 0; k <= 3; k++) {
      C.due("image(" + k + ")", row.image(k), k);
      C.due("edition()", row.edition(), k);
    }
    C.due("edition", row.count(5), 4);
    int[] order = {2, 0, 3, 1, 1, 3};
    for (int k : order) {
      C.due("back(" + k + ")", row.back(k), k);
      C.due("edition", row.count(5), k);
      C.due("wrong", row.count(6), 31 & -1 << k);
    }
  }

  private static void imageChangesNothing() {
    C.says(36, "An IMAGE is made: EDITION;");
    // All but the image itself is as it was: with the image made twice there is nothing to be told apart.
    for (int k = 0; k <= 3; k++) {
      int of = k;
      Twins.Maker made = () -> {
        ErrataRow row = Twins.rich();
        row.image(of);
        return row;
      };
      Twins.nothingHappens(C, "image(" + of + ") again", made, row -> row.image(of), 2);
      C.due("acts", made.make().count(11), 5);
      C.due("bytes", made.make().count(13), 41);
      C.due("undo()", made.make().undo(), 4);
    }
  }

  private static void imageRefused() {
    C.says(36, "NONE without it.");
    int[] ks = {-1, -2, 4, 5, LEAST, MOST};
    for (int k : ks) {
      Twins.nothingHappens(C, "image(" + k + ")", Twins::rich, row -> row.image(k), -1);
      Twins.nothingHappens(C, "image(" + k + ") without a book", ErrataRow::new, row -> row.image(k), -1);
    }
  }

  private static ErrataRow full() {
    ErrataRow row = Check.row("book 9 999" + ";letter 0 7".repeat(10) + ";habit 7 6".repeat(12) + ";hangs 9 8", "mend 0", "mend 0",
        "mend letter", "mend 0", "mend 0", "mend 1");
    row.force(2);
    row.seed(2147483647);
    for (int i = 0; i < 10; i++) {
      row.note(6 * i, i, i % 8);
    }
    for (int i = 0; i < 19; i++) {
      row.edition();
    }
    row.hang(0, 9);
    return row;
  }

  private static ErrataRow small() {
    ErrataRow row = Check.row("book 1 0;letter 3 4", "mend 0");
    row.edition();
    return row;
  }

  /** All is otherwise: another book, or all that can be changed without one. */
  private static void change(ErrataRow row, boolean withABook) {
    if (withABook) {
      Check.book(row, "book 2 7;letter 5 5;letter 5 6;habit 5 4;hangs 0 1");
    }
    row.force(-1);
    row.seed(77);
    row.note(-1, 0, 0);
    row.note(3, 0, 3);
    row.set(0, 2);
    row.hang(0, 1);
    row.fill(13);
    row.mend(0);
    row.edition();
    row.edition();
  }

  private static void allIsAsItWas() {
    C.says(0, "all but the TAPE and the RULES, as it is (the RULE IN FORCE, too); gone back to, it is as it was");
    C.says(37, "All is as in an IMAGE: EDITION;");
    Twins.Maker[] makers = {ImagesEdgesTest::full, ImagesEdgesTest::small, Twins::richWithoutTape, ErrataRow::new};
    int[] editions = {19, 1, 2, 0};
    for (int i = 0; i < makers.length; i++) {
      Twins.Maker maker = makers[i];
      int edition = editions[i];
      for (int k = 0; k <= 3; k++) {
        int of = k;
        for (int with = 0; with <= 1; with++) {
          boolean withABook = with == 1;
          // Gone back to at once, or when all is otherwise: it is the same.
          Twins.same(C, "back(" + of + ")", () -> {
            ErrataRow row = maker.make();
            row.image(of);
            row.back(of);
            return row;
          }, () -> {
            ErrataRow row = maker.make();
            C.due("image(" + of + ")", row.image(of), edition);
            change(row, withABook);
            C.due("back(" + of + ")", row.back(of), edition);
            return row;
          });
        }
      }
    }
    ErrataRow row = full();
    int[] want = new int[14];
    for (int what = 0; what <= 13; what++) {
      want[what] = row.count(what);
    }
    row.image(3);
    change(row, true);
    row.back(3);
    want[11] = 0;
    for (int what = 0; what <= 13; what++) {
      C.due("count(" + what + ")", row.count(what), want[what]);
    }
    C.due("x", row.count(12), 2147483647);
    C.due("notes", row.count(10), 10);
    C.due("in force", row.count(4), 2);
  }

  private static void tapeAndRulesStay() {
    C.says(0, "(these stay; nothing can be UNDONE then).");
    ErrataRow row = Check.row("book 1 9" + ";letter 0 1".repeat(4), "mend 1");
    Check.tape(row, "mend letter");
    row.image(0);
    C.due("rule()", row.rule(), 1);
    row.force(1);
    Check.tape(row, "mend 1 if letter = 2");
    C.due("back(0)", row.back(0), 0);
    C.due("rules stay", row.count(3), 2);
    C.due("the rule in force is as it was", row.count(4), 0);
    C.due("the tape stays", row.count(13), 20);
    C.due("rule()", row.rule(), 2);
    row.force(1);
    C.due("edition() by rule 1", row.edition(), 3);
    row.force(2);
    C.due("edition() by rule 2", row.edition(), 2);
    // An empty tape stays empty, though the image was made with one.
    Check.tape(row, "mend 1");
    row.image(1);
    row.end(0);
    row.back(1);
    C.due("the tape stays empty", row.count(13), 0);
  }

  private static void theImageStays() {
    C.says(0, "gone back to, it is as it was (these stay;");
    ErrataRow row = full();
    row.image(2);
    for (int i = 0; i < 3; i++) {
      change(row, i == 1);
      C.due("back(2)", row.back(2), 19);
      C.due("wrong", row.count(6), full().count(6));
      C.due("notes", row.count(10), 10);
      C.due("letter 0 hangs", row.letter(0, 3), 512);
    }
    // A book does nothing to it.
    Check.book(row, "book 1 1");
    C.due("image(0)", row.image(0), 0);
    C.due("back(2)", row.back(2), 19);
    C.due("back(0)", row.back(0), 0);
    C.due("letters", row.count(2), 0);
  }

  private static void notesOfAnImage() {
    C.says(0, "as it is (the RULE IN FORCE, too); gone back to, it is as it was");
    // Of ten notes one tells that letter 3 was put as 6 behind edition 0; all others are so in any case. In edition 1 it
    // is put as 5.
    for (int tells = 0; tells <= 9; tells++) {
      ErrataRow row = Check.row("book 1 0" + ";letter 2 2".repeat(4) + ";habit 7 7;habit 6 5", "mend 0");
      for (int i = 0; i <= 9; i++) {
        C.due("note", i == tells ? row.note(0, 3, 6) : row.note(i, 0, 2), i + 1);
      }
      row.image(0);
      C.due("putAs(3)", row.putAs(3), 64);
      // Others in their place: of another edition, of another letter, of another put.
      int[][] others = {{59, 3, 6}, {0, 1, 6}, {0, 3, 5}};
      for (int[] other : others) {
        row.note(-1, 0, 0);
        for (int i = 0; i <= 9; i++) {
          row.note(other[0], other[1], other[2]);
        }
        C.due("back(0)", row.back(0), 0);
        C.due("notes", row.count(10), 10);
        C.due("putAs(3)", row.putAs(3), 64);
        C.due("putAs(0), not as letter 3 is", row.putAs(0), 0);
      }
    }
  }

  private static void madeAnew() {
    C.says(36, "An IMAGE is made");
    ErrataRow row = Check.row("book 1 9;letter 0 1;letter 0 1");
    row.image(0);
    row.image(3);
    row.edition();
    C.due("image(0) anew", row.image(0), 1);
    row.edition();
    C.due("back(0)", row.back(0), 1);
    C.due("wrong", row.count(6), 2);
    C.due("back(3), as it was", row.back(3), 0);
    C.due("wrong", row.count(6), 3);
  }

  private static void nothingCanBeUndone() {
    C.says(0, "nothing can be UNDONE then");
    int[] acts = {0, 1, 19, 20, 21};
    for (int many : acts) {
      ErrataRow row = Check.row("book 1 0;letter 0 1");
      for (int i = 0; i < many; i++) {
        row.fill(1);
      }
      row.image(1);
      C.due("acts of " + many, row.count(11), Math.min(many, 20));
      row.fill(5);
      row.back(1);
      C.due("acts", row.count(11), 0);
      C.due("undo()", row.undo(), -1);
      C.due("purse", row.count(8), many);
      // From then on again, the acts behind it alone.
      row.fill(2);
      row.fill(3);
      C.due("acts", row.count(11), 2);
      C.due("undo()", row.undo(), 1);
      C.due("purse", row.count(8), many + 2);
      C.due("undo()", row.undo(), 0);
      C.due("undo()", row.undo(), -1);
      C.due("purse", row.count(8), many);
    }
  }

  private static void withoutABook() {
    C.says(0, "all but the TAPE and the RULES, as it is");
    ErrataRow row = new ErrataRow();
    row.seed(5);
    C.due("image(3) without a book", row.image(3), 0);
    Check.rule(row, "mend 1");
    row.force(0);
    Check.book(row, "book 1 9;letter 0 1;habit 1 2");
    row.edition();
    row.note(0, 0, 1);
    row.seed(6);
    C.due("back(3)", row.back(3), 0);
    int[] want = {0, 0, 0, 1, -1, 0, 0, 0, 0, 0, 0, 0, 5, 0};
    for (int what = 0; what <= 13; what++) {
      C.due("count(" + what + ")", row.count(what), want[what]);
    }
    C.due("edition()", row.edition(), -1);
    C.due("habit(0, 0)", row.habit(0, 0), -1);
    C.due("letter(0, 0)", row.letter(0, 0), -1);
    C.due("fill(1)", row.fill(1), -1);
    C.due("allRight()", row.allRight(), -1);
    C.due("ruled(0)", row.ruled(0), -3);
  }

  private static void backRefused() {
    C.says(37, "NONE, and nothing happens, if it was never made, or without it.");
    // Of the rich one images 0 and 2 were made.
    int[] ks = {1, 3, -1, -2, 4, 5, LEAST, MOST};
    for (int k : ks) {
      Twins.nothingHappens(C, "back(" + k + ")", Twins::rich, row -> row.back(k), -1);
    }
    for (int k = -1; k <= 4; k++) {
      int of = k;
      Twins.nothingHappens(C, "back(" + of + ") of a new object", ErrataRow::new, row -> row.back(of), -1);
      Twins.nothingHappens(C, "back(" + of + ") of a book", ImagesEdgesTest::small, row -> row.back(of), -1);
    }
    C.due("back(0)", Twins.rich().back(0), 0);
    C.due("back(2)", Twins.rich().back(2), 1);
    // An image that was refused was not made.
    ErrataRow row = small();
    row.image(4);
    row.image(-1);
    for (int k = -1; k <= 4; k++) {
      C.due("back(" + k + ")", row.back(k), -1);
    }
  }
}
