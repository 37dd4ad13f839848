/** The boundaries of promises 1 (a new object), 2 (feed) and 3 (end). */
public final class TapeEdgesTest {
  private static final Check C = new Check();

  public static void main(String[] args) {
    newObject();
    eachByteInItsPlace();
    behindTheTape();
    upTo400();
    notBeyond400();
    endTakes();
    endRefuses();
    theFirstBytesAlone();
    C.close();
  }

  private static void newObject() {
    C.says(1, "No BOOK, no RULES, none IN FORCE.");
    ErrataRow row = new ErrataRow();
    for (int what = 0; what <= 13; what++) {
      C.due("count(" + what + ")", row.count(what), what == 4 ? -1 : 0);
    }
    C.due("force(NONE): none was", row.force(-1), -1);
    C.due("force(0)", row.force(0), -2);
    C.due("edition()", row.edition(), -1);
    C.due("habit(0, 0)", row.habit(0, 0), -1);
    C.due("end(0)", row.end(0), 0);
    C.due("end(1)", row.end(1), -1);
    C.due("undo()", row.undo(), -1);
    for (int k = 0; k <= 3; k++) {
      C.due("back(" + k + ")", row.back(k), -1);
    }
    C.due("the first rule", Check.rule(row, "mend 1"), 0);
    C.says(0, "The constants: `NONE = -1`: None.");
    C.due("NONE", ErrataRow.NONE, -1);
  }

  /** Twenty blanks, but for one byte. */
  private static byte[] blanksBut(int place, int sign) {
    byte[] bytes = new byte[20];
    for (int i = 0; i < 20; i++) {
      bytes[i] = (byte) (i == place ? sign : ' ');
    }
    return bytes;
  }

  private static void eachByteInItsPlace() {
    C.says(2, "Twenty bytes come behind the TAPE, of each number the highest first: how many it has;");
    int[] signs = {'x', 0, 127, 128, 255};
    for (int place = 0; place < 20; place++) {
      for (int sign : signs) {
        byte[] bytes = blanksBut(place, sign);
        ErrataRow row = new ErrataRow();
        C.due("feed", row.feed(Check.word(bytes, 0), Check.word(bytes, 4), Check.word(bytes, 8), Check.word(bytes, 12),
            Check.word(bytes, 16)), 20);
        C.due("book() with " + sign + " at " + place, row.book(), Check.fault(place, 0));
      }
    }
  }

  private static void behindTheTape() {
    C.says(2, "Twenty bytes come behind the TAPE");
    ErrataRow row = new ErrataRow();
    row.feed(0x626f6f6b, 0x20392039, 0x39000000, 0, 0);
    C.due("end(9)", row.end(9), 9);
    // "9;letter 3 4", and blanks.
    C.due("feed behind 9", row.feed(0x393b6c65, 0x74746572, 0x20332034, 0x20202020, 0x20202020), 29);
    C.due("book()", row.book(), 1);
    C.due("purse", row.count(8), 999);
    C.due("put", row.letter(0, 0), 3);
    C.due("feed of an empty tape", row.feed(0, 0, 0, 0, 0), 20);
  }

  /** A good book of so many bytes, the last of which is the digit that its letter is meant as. */
  static String bookOf(int bytes) {
    return "book 1 5" + " ".repeat(bytes - 8 - 11) + ";letter 3 4";
  }

  private static ErrataRow withTape(String text) {
    ErrataRow row = Twins.rich();
    Check.tape(row, text);
    return row;
  }

  private static void upTo400() {
    C.says(2, "how many it has; NONE, and none comes, if it would have more than 400.");
    ErrataRow row = new ErrataRow();
    for (int many = 20; many <= 400; many += 20) {
      C.due("feed", row.feed(0x20202020, 0x20202020, 0x20202020, 0x20202020, 0x20202020), many);
      C.due("bytes", row.count(13), many);
    }
    C.due("the end, behind 400 bytes", row.book(), Check.fault(400, 0));
    row = withTape(bookOf(380));
    C.due("feed behind 380", row.feed(0x20202020, 0x20202020, 0x20202020, 0x20202020, 0x2020203b), 400);
    C.due("all twenty came", row.book(), Check.fault(400, 0));
  }

  private static void notBeyond400() {
    C.says(2, "NONE, and none comes, if it would have more than 400.");
    int[] bytes = {381, 382, 399, 400};
    for (int many : bytes) {
      Twins.nothingHappens(C, "feed behind " + many, () -> withTape(bookOf(many)), row -> row.feed(0, 0, 0, 0, 0), -1);
    }
    C.due("the book of 400 bytes is still there", withTape(bookOf(400)).book(), 1);
  }

  private static void endTakes() {
    C.says(3, "The TAPE has its first n bytes alone: n;");
    for (int n = 0; n <= 20; n++) {
      ErrataRow row = new ErrataRow();
      row.feed(0x20202020, 0x20202020, 0x20202020, 0x20202020, 0x20202020);
      C.due("end(" + n + ")", row.end(n), n);
      C.due("bytes", row.count(13), n);
      C.due("the end is there", row.book(), Check.fault(n, 0));
    }
    ErrataRow full = withTape(bookOf(400));
    C.due("end(400)", full.end(400), 400);
    C.due("end(399)", full.end(399), 399);
    C.due("the last byte is gone", full.book(), Check.fault(399, 0));
    C.due("end(0) of an empty tape", full.end(0), 0);
  }

  private static void endRefuses() {
    C.says(3, "NONE, and nothing happens, if it has not so many, or n is below 0.");
    int[] few = {42, 43, 400, Integer.MAX_VALUE, -1, -2, Integer.MIN_VALUE};
    for (int n : few) {
      Twins.nothingHappens(C, "end(" + n + ") of 41", Twins::rich, row -> row.end(n), -1);
    }
    C.due("end(41) of 41", Twins.rich().end(41), 41);
    Twins.nothingHappens(C, "end(401) of 400", () -> withTape(bookOf(400)), row -> row.end(401), -1);
    Twins.nothingHappens(C, "end(1) of an empty tape", ErrataRow::new, row -> row.end(1), -1);
    Twins.nothingHappens(C, "end(-1) of an empty tape", ErrataRow::new, row -> row.end(-1), -1);
    // What was cut off does not come back.
    ErrataRow row = withTape(bookOf(400));
    row.end(8);
    C.due("end(9) of 8, which had 400", row.end(9), -1);
    C.due("bytes", row.count(13), 8);
  }

  private static void theFirstBytesAlone() {
    C.says(3, "The TAPE has its first n bytes alone");
    ErrataRow row = withTape("book 1 0;letter 2 3");
    row.end(8);
    C.due("book()", row.book(), 0);
    row = withTape("book 1 0555");
    row.end(9);
    C.due("book() of a number cut short", row.book(), 0);
    C.due("purse", row.count(8), 5);
    row = withTape("book 1 0;letter 2 3");
    row.end(9);
    row.feed(0x6c657474, 0x65722037, 0x20362020, 0x20202020, 0x20202020);
    C.due("book() of other bytes behind", row.book(), 1);
    C.due("put", row.letter(0, 0), 7);
  }
}
