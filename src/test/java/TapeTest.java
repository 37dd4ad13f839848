/** Promises 1 (a new object), 2 (feed), 3 (end). */
public final class TapeTest {
  private static final Check C = new Check();

  public static void main(String[] args) {
    newObject();
    feedUntilFull();
    bytesHighestFirst();
    endCuts();
    C.close();
  }

  private static void newObject() {
    ErrataRow row = new ErrataRow();
    for (int what = 0; what <= 13; what++) {
      C.due("count(" + what + ") of a new object", row.count(what), what == 4 ? -1 : 0);
    }
    C.due("NONE", ErrataRow.NONE, -1);
    C.due("undo of a new object", row.undo(), -1);
    C.due("force(NONE) of a new object", row.force(-1), -1);
    C.due("force(0) of a new object", row.force(0), -2);
    C.due("letter of a new object", row.letter(0, 0), -1);
    C.due("back of a new object", row.back(0), -1);
  }

  private static void feedUntilFull() {
    ErrataRow row = new ErrataRow();
    for (int i = 1; i <= 20; i++) {
      C.due("feed " + i, row.feed(i, i, i, i, i), 20 * i);
    }
    C.due("feed beyond 400", row.feed(1, 2, 3, 4, 5), -1);
    C.due("bytes then", row.count(13), 400);
    C.due("end(381)", row.end(381), 381);
    C.due("feed from 381", row.feed(1, 2, 3, 4, 5), -1);
    C.due("bytes then", row.count(13), 381);
    C.due("end(380)", row.end(380), 380);
    C.due("feed from 380", row.feed(1, 2, 3, 4, 5), 400);
  }

  private static void bytesHighestFirst() {
    ErrataRow row = new ErrataRow();
    // "book" " 3 4" "56;l" "ette" "r 7 "
    C.due("feed", row.feed(0x626f6f6b, 0x20332034, 0x35363b6c, 0x65747465, 0x72203720), 20);
    C.due("feed", row.feed(0x36ffffff, -1, -1, -1, -1), 40);
    C.due("end", row.end(21), 21);
    C.due("book", row.book(), 1);
    C.due("quarter", row.count(0), 3);
    C.due("purse", row.count(8), 456);
    C.due("put", row.letter(0, 0), 7);
    C.due("meant", row.letter(0, 1), 6);
    // Bytes above 127 are bytes, and can't stand.
    row.feed(-1, -1, -1, -1, -1);
    C.due("book of bytes 255", row.book(), Check.fault(0, 0));
  }

  private static void endCuts() {
    ErrataRow row = new ErrataRow();
    C.due("end(0) of none", row.end(0), 0);
    C.due("end(1) of none", row.end(1), -1);
    row.feed(0, 0, 0, 0, 0);
    C.due("end(21) of 20", row.end(21), -1);
    C.due("end(-1)", row.end(-1), -1);
    C.due("end(least)", row.end(Integer.MIN_VALUE), -1);
    C.due("end(most)", row.end(Integer.MAX_VALUE), -1);
    C.due("bytes then", row.count(13), 20);
    C.due("end(20) of 20", row.end(20), 20);
    C.due("end(7)", row.end(7), 7);
    C.due("bytes then", row.count(13), 7);
    C.due("feed behind 7", row.feed(0, 0, 0, 0, 0), 27);
    // What was cut off is not there any more, though it would go on with what is there.
    Check.tape(row, "book 1 0555");
    C.due("end(8)", row.end(8), 8);
    C.due("book", row.book(), 0);
    C.due("purse", row.count(8), 0);
    Check.tape(row, "mend puts");
    C.due("end(8)", row.end(8), 8);
    C.due("rule", row.rule(), 0);
    C.due("end(0)", row.end(0), 0);
    C.due("bytes then", row.count(13), 0);
  }
}
