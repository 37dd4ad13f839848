/** The boundaries of RINGS, TWICE, APART and PENCE: promises 20 (rings), 21 (twice), 22 (apart) and 29 (pence). */
public final class StandingEdgesTest {
  private static final Check C = new Check();
  private static final int LEAST = Integer.MIN_VALUE;
  private static final int MOST = Integer.MAX_VALUE;

  public static void main(String[] args) {
    ringsOfTwoToTen();
    ringsOverWrongOnes();
    ringsOfAll();
    ringsRefused();
    twiceAtLeastOne();
    twiceTheLongest();
    twiceTheLeastPlaces();
    twiceRefused();
    apartOfLengths();
    apartTheFewest();
    apartRefused();
    pence();
    penceLeft();
    penceOfNone();
    penceRefused();
    C.close();
  }

  private static void ringsOfTwoToTen() {
    C.says(0, "RINGS: WRONG LETTERS that, one by one over such as are WRONG, HANG on themselves, as bits.");
    for (int many = 1; many <= 10; many++) {
      // Along the numbers, against them, and by steps of three.
      int[] steps = {1, many - 1, 3};
      for (int step : steps) {
        if (step < 1 || many % 3 == 0 && step == 3 || step >= many) {
          continue;
        }
        ErrataRow row = Check.put("1".repeat(10));
        for (int i = 0; i < many - 1; i++) {
          row.hang(i * step % many, (i + 1) * step % many);
        }
        C.due(many + " by " + step + ", not closed", row.rings(), 0);
        row.hang((many - 1) * step % many, 0);
        C.due(many + " by " + step + ", closed", row.rings(), (1 << many) - 1);
      }
    }
    C.due("none hangs on itself alone", Check.put("1").rings(), 0);
  }

  private static void ringsOverWrongOnes() {
    C.says(0, "WRONG LETTERS that, one by one over such as are WRONG");
    for (int right = 0; right <= 9; right++) {
      ErrataRow row = Check.put("1".repeat(10));
      for (int i = 0; i <= 9; i++) {
        row.hang(i, (i + 1) % 10);
      }
      row.set(right, 0);
      C.due("a ring of ten, but " + right + " is right", row.rings(), 0);
      row.set(right, 7);
      C.due("a ring of ten, and " + right + " is wrong otherwise", row.rings(), 1023);
    }
    // Two ways round: the longer one stays when the shorter one's letter is right.
    ErrataRow row = Check.put("1111");
    row.hang(0, 1);
    row.hang(1, 0);
    row.hang(1, 2);
    row.hang(2, 3);
    row.hang(3, 0);
    C.due("two rings that share", row.rings(), 15);
    row.set(3, 0);
    C.due("the shorter one", row.rings(), 3);
    row.set(3, 1);
    row.set(0, 0);
    C.due("none without the one that is shared", row.rings(), 0);
  }

  private static void ringsOfAll() {
    C.says(0, "HANG on themselves, as bits.");
    // What hangs on a ring, and what a ring hangs on, is none.
    ErrataRow row = Check.put("11111");
    row.hang(1, 2);
    row.hang(2, 3);
    row.hang(3, 1);
    row.hang(0, 1);
    row.hang(3, 4);
    C.due("only the ring itself", row.rings(), 14);
    row.hang(4, 0);
    C.due("all five", row.rings(), 31);
    row = Check.put("1".repeat(10));
    for (int i = 0; i < 10; i += 2) {
      row.hang(i, i + 1);
      row.hang(i + 1, i);
    }
    C.due("five rings of two", row.rings(), 1023);
    C.says(20, "RINGS, as bits;");
    row = Check.put("1".repeat(10));
    row.hang(0, 9);
    row.hang(9, 0);
    C.due("the first and the last", row.rings(), 513);
    C.due("without letters", Check.put("").rings(), 0);
    // Told by the text, too.
    C.due("told", Check.row("book 1 0;letter 1 0;letter 1 0;letter 0 0;hangs 0 1;hangs 1 0;hangs 2 0").rings(), 3);
  }

  private static void ringsRefused() {
    C.says(20, "NONE without a BOOK.");
    Twins.nothingHappens(C, "rings() without a book", ErrataRow::new, ErrataRow::rings, -1);
  }

  private static void dueTwice(String digits, int length, int first, int second) {
    ErrataRow row = Check.put(digits);
    C.due(digits + ": twice(0)", row.twice(0), length);
    C.due(digits + ": twice(1)", row.twice(1), first);
    C.due(digits + ": twice(2)", row.twice(2), second);
  }

  private static void twiceAtLeastOne() {
    C.says(0, "TWICE: the longest part of what is PUT, one LETTER at least, that stands there twice");
    C.says(21, "TWICE what 0: how long (0: nothing), 1, 2: the places (-2: nothing).");
    dueTwice("", 0, -2, -2);
    dueTwice("7", 0, -2, -2);
    dueTwice("01", 0, -2, -2);
    dueTwice("00", 1, 0, 1);
    dueTwice("01234567", 0, -2, -2);
    dueTwice("012345670", 1, 0, 8);
    dueTwice("012345677", 1, 7, 8);
    dueTwice("0123456732", 1, 2, 9);
  }

  private static void twiceTheLongest() {
    C.says(0, "(they may share LETTERS; not the same place)");
    for (int letters = 2; letters <= 10; letters++) {
      dueTwice("5".repeat(letters), letters - 1, 0, 1);
    }
    dueTwice("0101010101", 8, 0, 2);
    dueTwice("0120120120", 7, 0, 3);
    dueTwice("0123012301", 6, 0, 4);
    dueTwice("0123401234", 5, 0, 5);
    dueTwice("0123450123", 4, 0, 6);
    dueTwice("0123456012", 3, 0, 7);
    dueTwice("0123456701", 2, 0, 8);
    // The longer one, though it is later; one that shares nothing, next to itself.
    dueTwice("0023456456", 3, 4, 7);
    dueTwice("0101234234", 3, 4, 7);
    dueTwice("7765432321", 2, 5, 7);
    dueTwice("0123457457", 3, 4, 7);
    // Not the meant ones, and not backwards.
    dueTwice("01233210", 1, 0, 7);
  }

  private static void twiceTheLeastPlaces() {
    C.says(0, "of several the one of the least first place, then second: how long; both.");
    dueTwice("0120304050", 1, 0, 3);
    dueTwice("1234567721", 1, 0, 9);
    dueTwice("0170120101", 2, 0, 3);
    dueTwice("1201301401", 2, 2, 5);
    dueTwice("2313412323", 2, 0, 6);
    dueTwice("5512553123", 2, 0, 4);
  }

  private static void twiceRefused() {
    C.says(21, "NONE for others, or without a BOOK.");
    int[] whats = {-1, 3, 4, LEAST, MOST};
    for (int what : whats) {
      Twins.nothingHappens(C, "twice(" + what + ")", Twins::rich, row -> row.twice(what), -1);
      C.due("twice(" + what + ") of nothing", Check.put("01").twice(what), -1);
    }
    for (int what = 0; what <= 2; what++) {
      int of = what;
      Twins.nothingHappens(C, "twice(" + of + ") without a book", ErrataRow::new, row -> row.twice(of), -1);
    }
  }

  private static void apartOfLengths() {
    C.says(0, "APART of two places (LETTERS) and a length (1 to 10, so that both parts are there):");
    for (int letters = 1; letters <= 10; letters++) {
      ErrataRow row = Check.put("0123456701".substring(0, letters));
      for (int length = 1; length <= letters; length++) {
        int last = letters - length;
        C.due(letters + ": apart(" + last + ", " + last + ", " + length + ")", row.apart(last, last, length), 0);
        C.due(letters + ": apart(" + (last + 1) + ", 0, " + length + ")", row.apart(last + 1, 0, length), -1);
        C.due(letters + ": apart(0, " + (last + 1) + ", " + length + ")", row.apart(0, last + 1, length), -1);
      }
      C.due(letters + ": apart(0, 0, " + (letters + 1) + ")", row.apart(0, 0, letters + 1), -1);
    }
  }

  private static void apartTheFewest() {
    C.says(0, "the fewest LETTERS to be put in, taken out or put otherwise, so that the one part is the other.");
    ErrataRow row = Check.put("0123456701");
    C.due("0 and 1", row.apart(0, 1, 1), 1);
    C.due("0 and 0", row.apart(0, 8, 1), 0);
    C.due("01 and 01", row.apart(8, 0, 2), 0);
    // 0123 and 1234: one is taken out, and one put in.
    C.due("01 and 12", row.apart(0, 1, 2), 2);
    for (int length = 2; length <= 9; length++) {
      C.due("next to each other, " + length + " long", row.apart(0, 1, length), 2);
      C.due("the other way, " + length + " long", row.apart(1, 0, length), 2);
    }
    C.due("012 and 234", row.apart(0, 2, 3), 3);
    C.due("0123 and 2345", row.apart(0, 2, 4), 4);
    C.due("01234 and 23456", row.apart(0, 2, 5), 4);
    C.due("01234567 and 23456701", row.apart(0, 2, 8), 4);
    C.due("01234 and 56701", row.apart(0, 5, 5), 5);
    C.due("all ten", row.apart(0, 0, 10), 0);
    row = Check.put("1112111311");
    C.due("1112 and 1113: put otherwise", row.apart(0, 4, 4), 1);
    C.due("11121 and 11131", row.apart(0, 4, 5), 1);
    C.due("111211 and 111311", row.apart(0, 4, 6), 1);
    // Not by place alone: 2111 and 1112.
    C.due("2111 and 1112", row.apart(3, 0, 4), 2);
    C.due("2111 and 3113", Check.put("21113113").apart(0, 4, 4), 2);
    C.due("012 and 120, of which one stays", Check.put("012120").apart(0, 3, 3), 2);
    C.due("01234 and 03124: one moved", Check.put("0123403124").apart(0, 5, 5), 2);
    C.due("01234 and 10324: 0 out, 0 for 2, 2 in", Check.put("0123410324").apart(0, 5, 5), 3);
    C.says(22, "APART;");
    row.set(0, 5);
    C.due("as it is put now", row.apart(0, 1, 1), 1);
  }

  private static void apartRefused() {
    C.says(22, "NONE without these.");
    int[][] refused = {{-1, 0, 1}, {0, -1, 1}, {5, 0, 1}, {0, 5, 1}, {10, 0, 1}, {0, 10, 1}, {0, 0, 0}, {0, 0, -1},
        {0, 0, 6}, {0, 0, 10}, {0, 0, 11}, {1, 0, 5}, {0, 1, 5}, {4, 0, 2}, {0, 4, 2}, {LEAST, 0, 1}, {0, LEAST, 1},
        {MOST, 0, 1}, {0, MOST, 1}, {0, 0, MOST}, {0, 0, LEAST}, {4, 4, MOST}, {MOST, MOST, MOST}, {-1, -1, 2}, {4, 4, 0}};
    for (int[] call : refused) {
      Twins.nothingHappens(C, "apart(" + call[0] + ", " + call[1] + ", " + call[2] + ") of five", Twins::rich,
          row -> row.apart(call[0], call[1], call[2]), -1);
    }
    C.isTrue("apart(4, 0, 1) of five", Twins.rich().apart(4, 0, 1) >= 0);
    C.isTrue("apart(0, 1, 4) of five", Twins.rich().apart(0, 1, 4) >= 0);
    C.due("apart(0, 0, 11) of ten", Check.put("1".repeat(10)).apart(0, 0, 11), -1);
    Twins.nothingHappens(C, "apart(0, 0, 1) without a book", ErrataRow::new, row -> row.apart(0, 0, 1), -1);
    Twins.nothingHappens(C, "apart(0, 0, 1) without letters", () -> Check.put(""), row -> row.apart(0, 0, 1), -1);
  }

  /** A row whose letters were paid so often, one a digit. */
  private static ErrataRow paid(String digits) {
    ErrataRow row = Check.row("book 1 999" + ";letter 1 0".repeat(digits.length()), "mend 0");
    for (char edition = '0'; edition < '9'; edition++) {
      for (int i = 0; i < digits.length(); i++) {
        if (digits.charAt(i) == edition) {
          row.set(i, 0);
        }
      }
      row.edition();
    }
    for (int i = 0; i < digits.length(); i++) {
      C.due("paid of " + i, row.letter(i, 2), digits.charAt(i) - '0');
    }
    return row;
  }

  private static void duePence(ErrataRow row, int much, int... want) {
    for (int i = 0; i < want.length; i++) {
      C.due("pence(" + much + ", " + i + ")", row.pence(much, i), want[i]);
    }
  }

  private static void pence() {
    C.says(0, "PENCE (0 to 9999) among LETTERS by how often they were PAID: each the part downwards;");
    C.says(29, "PENCE of a LETTER;");
    ErrataRow row = paid("1234");
    duePence(row, 0, 0, 0, 0, 0);
    duePence(row, 10, 1, 2, 3, 4);
    duePence(row, 9990, 999, 1998, 2997, 3996);
    duePence(row, 9998, 1000, 2000, 2999, 3999);
    duePence(row, 9999, 1000, 2000, 3000, 3999);
    duePence(paid("9"), 9999, 9999);
    duePence(paid("9"), 0, 0);
    duePence(paid("090"), 9999, 0, 9999, 0);
    duePence(paid("0000000001"), 9999, 0, 0, 0, 0, 0, 0, 0, 0, 0, 9999);
    duePence(paid("1000000000"), 1, 1, 0, 0, 0, 0, 0, 0, 0, 0, 0);
    duePence(paid("9999999999"), 9999, 1000, 1000, 1000, 1000, 1000, 1000, 1000, 1000, 1000, 999);
  }

  private static void penceLeft() {
    C.says(0, "what is left, one each, to those whose part lost most by that, of several the least first");
    ErrataRow row = paid("1234");
    duePence(row, 1, 0, 0, 0, 1);
    duePence(row, 2, 0, 0, 1, 1);
    duePence(row, 3, 0, 1, 1, 1);
    duePence(row, 5, 1, 1, 1, 2);
    duePence(row, 7, 1, 1, 2, 3);
    row = paid("3333333333");
    duePence(row, 1, 1, 0, 0, 0, 0, 0, 0, 0, 0, 0);
    duePence(row, 9, 1, 1, 1, 1, 1, 1, 1, 1, 1, 0);
    duePence(row, 10, 1, 1, 1, 1, 1, 1, 1, 1, 1, 1);
    duePence(row, 11, 2, 1, 1, 1, 1, 1, 1, 1, 1, 1);
    // Of 3, 1 and 3: who lost as much as another one, and is later, has none.
    row = paid("313");
    duePence(row, 1, 1, 0, 0);
    duePence(row, 2, 1, 0, 1);
    duePence(row, 3, 1, 1, 1);
    duePence(row, 4, 2, 0, 2);
    duePence(row, 5, 2, 1, 2);
    duePence(row, 6, 3, 1, 2);
    // Who was not paid has nothing of what is left.
    row = paid("0101");
    duePence(row, 1, 0, 1, 0, 0);
    duePence(row, 3, 0, 2, 0, 1);
    // All that is parted comes to somebody.
    int[] much = {0, 1, 17, 4999, 9998, 9999};
    for (int all : much) {
      ErrataRow ten = paid("1728364059");
      int sum = 0;
      for (int i = 0; i < 10; i++) {
        sum += ten.pence(all, i);
      }
      C.due("all of " + all, sum, all);
    }
  }

  private static void penceOfNone() {
    C.says(0, "(nothing, if none was).");
    ErrataRow row = Check.row("book 1 0;letter 1 0;letter 0 0");
    duePence(row, 0, 0, 0);
    duePence(row, 1, 0, 0);
    duePence(row, 9999, 0, 0);
    // Owed is not paid.
    row = Check.row("book 2 1;letter 1 0;letter 0 0", "mend 0");
    row.edition();
    C.due("owed", row.count(9), 1);
    duePence(row, 9999, 0, 0);
  }

  private static void penceRefused() {
    C.says(29, "NONE without these.");
    int[] much = {-1, -2, 10000, 10001, LEAST, MOST};
    for (int all : much) {
      Twins.nothingHappens(C, "pence(" + all + ", 0)", Twins::rich, row -> row.pence(all, 0), -1);
      C.due("pence(" + all + ", 0), none was paid", Check.put("1").pence(all, 0), -1);
    }
    int[] letters = {-1, 5, 9, 10, LEAST, MOST};
    for (int letter : letters) {
      Twins.nothingHappens(C, "pence(1, " + letter + ") of five", Twins::rich, row -> row.pence(1, letter), -1);
    }
    C.isTrue("pence(9999, 4) of five", Twins.rich().pence(9999, 4) >= 0);
    C.due("pence(0, 10) of ten", Check.put("1".repeat(10)).pence(0, 10), -1);
    C.due("pence(0, 0) without letters", Check.put("").pence(0, 0), -1);
    Twins.nothingHappens(C, "pence(0, 0) without a book", ErrataRow::new, row -> row.pence(0, 0), -1);
  }
}
