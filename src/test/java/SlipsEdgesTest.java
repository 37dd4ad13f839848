/** The boundaries of DRAWS and SLIPS: promises 33 (seed) and 34 (slips). */
public final class SlipsEdgesTest {
  private static final Check C = new Check();
  private static final int LEAST = Integer.MIN_VALUE;
  private static final int MOST = Integer.MAX_VALUE;
  // Nobody is mended or paid: what slips stays, and each wrong one is owed in each edition.
  private static final String TEN = "book 1 0" + ";letter 0 0".repeat(10);

  public static void main(String[] args) {
    seeds();
    seedRefused();
    draws();
    below();
    whichAndAsWhat();
    timesAndEditions();
    drawsGoOn();
    fromNowOn();
    owedTo999();
    byTheRuleInForce();
    plainly();
    drawsAtTheirEnds();
    nothingStays();
    slipsRefused();
    C.close();
  }

  private static void seeds() {
    C.says(0, "DRAWS: x (0 to 2147483647; 0 at first)");
    C.says(33, "x becomes a number: what it was;");
    ErrataRow row = new ErrataRow();
    C.due("x", row.count(12), 0);
    int[] numbers = {0, 1, 65535, 65536, 2147483646, 2147483647, 2147483647, 0};
    int was = 0;
    for (int x : numbers) {
      C.due("seed(" + x + ")", row.seed(x), was);
      C.due("x", row.count(12), x);
      was = x;
    }
    C.due("it is no act", row.count(11), 0);
  }

  private static void seedRefused() {
    C.says(33, "NONE, and nothing happens, below 0.");
    int[] numbers = {-1, -2, -65536, LEAST, LEAST + 1};
    for (int x : numbers) {
      Twins.nothingHappens(C, "seed(" + x + ")", Twins::rich, row -> row.seed(x), -1);
      Twins.nothingHappens(C, "seed(" + x + ") of a new object", ErrataRow::new, row -> row.seed(x), -1);
    }
    C.due("seed(0)", Twins.rich().seed(0), 12345);
  }

  private static void dueSlips(ErrataRow row, int m, int n, int p, int wrong, int owed) {
    String call = "slips(" + m + ", " + n + ", " + p + ", ";
    C.due(call + "0)", row.slips(m, n, p, 0), wrong);
    C.due(call + "1)", row.slips(m, n, p, 1), owed);
  }

  private static ErrataRow seeded(String book, int x) {
    ErrataRow row = Check.row(book, "mend 0");
    row.seed(x);
    return row;
  }

  private static void draws() {
    C.says(0, "becomes x * 1103515245 + 12345, of 2147483648 the rest; a DRAW is x / 65536.");
    // From 1 on: 16838 5758 10113, 17515 31051 5627, 23010 7419 16212, 4086 2749 12767.
    ErrataRow row = seeded(TEN, 1);
    dueSlips(row, 1, 1, 39, 1, 1);
    dueSlips(row, 1, 2, 39, 2, 3);
    dueSlips(row, 1, 3, 39, 3, 6);
    dueSlips(row, 1, 4, 86, 3, 9);
    dueSlips(row, 1, 4, 87, 3, 9);
    // Letter 8 is put as 1, letter 1 as 3, letter 9 as 4, then as 7: who is meant so is right.
    dueSlips(seeded("book 1 0" + ";letter 0 0".repeat(8) + ";letter 0 1;letter 0 0", 1), 1, 1, 39, 0, 0);
    dueSlips(seeded("book 1 0;letter 0 0;letter 0 3" + ";letter 0 0".repeat(8), 1), 1, 2, 39, 1, 3);
    dueSlips(seeded("book 1 0" + ";letter 0 0".repeat(9) + ";letter 0 4", 1), 1, 3, 39, 2, 7);
    dueSlips(seeded("book 1 0" + ";letter 0 0".repeat(9) + ";letter 0 7", 1), 1, 4, 86, 3, 2 + 3 + 3 + 3);
    dueSlips(seeded("book 1 0" + ";letter 0 0".repeat(9) + ";letter 0 7", 1), 1, 4, 87, 2, 2 + 3 + 3 + 2);
  }

  private static void below() {
    C.says(0, "ahead of each a DRAW mod 100: is it below p (0 to 100)");
    // The first draw is 0: below 1, and not below 0. Then letter 8 is put as 4.
    dueSlips(seeded(TEN, 0), 1, 1, 0, 0, 0);
    dueSlips(seeded(TEN, 0), 1, 1, 1, 1, 1);
    dueSlips(seeded(TEN, 0), 1, 1, 100, 1, 1);
    // The first draw is 22599, which is 99: below 100, and not below 99.
    dueSlips(seeded(TEN, 194), 1, 1, 99, 0, 0);
    dueSlips(seeded(TEN, 194), 1, 1, 100, 1, 1);
    // 16838 is 38, and from 2147483647 on 15929 is 29.
    dueSlips(seeded(TEN, 1), 1, 1, 38, 0, 0);
    dueSlips(seeded(TEN, 1), 1, 1, 39, 1, 1);
    dueSlips(seeded(TEN, 2147483647), 1, 1, 29, 0, 0);
    dueSlips(seeded(TEN, 2147483647), 1, 1, 30, 1, 1);
    // If it is not below, no other one is drawn for this edition: 5758 is 58, 10113 is 13, so 17515 tells the letter.
    dueSlips(seeded(TEN, 1), 1, 2, 38, 0, 0);
    dueSlips(seeded(TEN, 1), 1, 3, 38, 1, 1);
    String five = "book 1 0" + ";letter 0 0".repeat(5) + ";letter 0 3" + ";letter 0 0".repeat(4);
    dueSlips(seeded(five, 1), 1, 3, 38, 0, 2);
  }

  private static void whichAndAsWhat() {
    C.says(0, "and are there LETTERS, a DRAW mod how many, then a DRAW mod 8: that one is PUT so:");
    // 5758 by how many letters there are, then 10113 by 8, which is 1.
    for (int letters = 1; letters <= 10; letters++) {
      int which = 5758 % letters;
      for (int i = 0; i < letters; i++) {
        String book = "book 1 0" + ";letter 0 0".repeat(i) + ";letter 0 1" + ";letter 0 0".repeat(letters - 1 - i);
        // The one that is meant as 1 is wrong without the slip; another one is with it.
        dueSlips(seeded(book, 1), 1, 1, 39, i == which ? 0 : 2, i == which ? 0 : 2);
        dueSlips(seeded(book, 1), 1, 1, 38, 1, 1);
      }
    }
    int[] whats = {0, 1};
    for (int what : whats) {
      C.due("without letters", seeded("book 1 0", 1).slips(10, 60, 100, what), 0);
    }
  }

  private static void timesAndEditions() {
    C.says(0, "SLIPS m times (1 to 10) n EDITIONS (1 to 60) from now on:");
    C.says(34, "SLIPS what 0: how many, 1: how much.");
    // One that is wrong, and nothing slips: it is so each time, and owed in each edition.
    int[] times = {1, 2, 9, 10};
    int[] editions = {1, 2, 59, 60};
    for (int m : times) {
      for (int n : editions) {
        dueSlips(seeded("book 1 0;letter 0 1", 7), m, n, 0, m, m * n);
        dueSlips(seeded("book 1 0" + ";letter 0 1".repeat(10), 7), m, n, 0, 10 * m, 10 * m * n);
        dueSlips(Check.row("book 1 0;letter 0 1", "mend 1 if edition = " + n), m, n, 0, m, m * n);
        dueSlips(Check.row("book 1 0;letter 0 1", "mend 1 if edition = " + (n - 1)), m, n, 0, 0, m * (n - 1));
      }
    }
  }

  private static void drawsGoOn() {
    C.says(0, "SLIPS m times (1 to 10)");
    // The second time it is put as 3, by 17515 31051 5627, the third time as 4.
    dueSlips(seeded("book 1 0;letter 0 1", 1), 1, 1, 39, 0, 0);
    dueSlips(seeded("book 1 0;letter 0 1", 1), 2, 1, 39, 1, 1);
    dueSlips(seeded("book 1 0;letter 0 3", 1), 2, 1, 39, 1, 1);
    dueSlips(seeded("book 1 0;letter 0 4", 1), 3, 1, 39, 2, 2);
    // Each time as it is now: what slipped the time before is as it was.
    dueSlips(seeded(TEN, 1), 2, 1, 39, 2, 2);
    dueSlips(seeded(TEN, 1), 3, 1, 39, 3, 3);
    dueSlips(seeded(TEN, 1), 2, 2, 39, 2 + 1, 3 + 2);
  }

  private static void fromNowOn() {
    C.says(0, "from now on: ahead of each a DRAW");
    // It is put otherwise ahead of the edition: so it is mended, or not, in that edition.
    ErrataRow row = Check.row("book 1 0;letter 0 0", "mend 1 if edition = 1 and put = 1");
    row.seed(1);
    dueSlips(row, 1, 1, 39, 1, 1);
    row.edition();
    dueSlips(row, 1, 1, 39, 0, 0);
    // What is owed now is owed each time.
    row = Check.row("book 1 1;letter 0 1", "mend 0");
    for (int i = 0; i < 4; i++) {
      row.edition();
    }
    C.due("owed", row.count(9), 3);
    dueSlips(row, 1, 1, 0, 1, 4);
    dueSlips(row, 10, 60, 0, 10, 630);
    // The purse of now is for each time.
    dueSlips(Check.row("book 1 5;letter 0 1", "mend 0"), 3, 5, 0, 3, 0);
    dueSlips(Check.row("book 1 5;letter 0 1", "mend 0"), 3, 6, 0, 3, 3);
  }

  private static void owedTo999() {
    C.says(0, "how many are WRONG at the end; how much is OWED then, all together");
    ErrataRow row = Check.row("book 1 0" + ";letter 0 1".repeat(10), "mend 0");
    for (int i = 0; i < 93; i++) {
      row.edition();
    }
    C.due("owed", row.count(9), 930);
    dueSlips(row, 1, 6, 0, 10, 990);
    dueSlips(row, 1, 7, 0, 10, 999);
    dueSlips(row, 1, 60, 0, 10, 999);
    dueSlips(row, 10, 60, 0, 100, 9990);
  }

  private static void byTheRuleInForce() {
    C.says(0, "(By what is asked nothing changes; EDITIONS go on by the RULE IN FORCE.)");
    ErrataRow row = seeded("book 1 0;letter 0 1", 0);
    dueSlips(row, 2, 3, 0, 2, 6);
    row.force(-1);
    dueSlips(row, 2, 3, 0, 0, 0);
  }

  /** What slips are due, told once more: for letters meant as 0 that nobody mends, with an empty purse. */
  private static int[] plain(int letters, int x, int m, int n, int p) {
    long at = x;
    int[] due = new int[2];
    for (int time = 0; time < m; time++) {
      int[] put = new int[letters];
      int owed = 0;
      for (int i = 0; i < n; i++) {
        at = (at * 1103515245L + 12345L) & 0x7fffffffL;
        if ((at >> 16) % 100 < p && letters > 0) {
          at = (at * 1103515245L + 12345L) & 0x7fffffffL;
          int which = (int) ((at >> 16) % letters);
          at = (at * 1103515245L + 12345L) & 0x7fffffffL;
          put[which] = (int) (at >> 16) & 7;
        }
        owed += wrong(put);
      }
      due[0] += wrong(put);
      due[1] += owed;
    }
    return due;
  }

  private static int wrong(int[] put) {
    int wrong = 0;
    for (int one : put) {
      wrong += one != 0 ? 1 : 0;
    }
    return wrong;
  }

  private static void plainly() {
    C.says(0, "becomes x * 1103515245 + 12345, of 2147483648 the rest");
    int[] seeds = {0, 1, 2, 194, 65535, 65536, 1073741823, 1073741824, 2147483646, 2147483647};
    int[][] calls = {{1, 1, 100}, {1, 60, 100}, {10, 1, 100}, {10, 60, 100}, {10, 60, 99}, {10, 60, 50}, {10, 60, 1}, {3, 20, 30}};
    for (int letters = 0; letters <= 10; letters++) {
      for (int x : seeds) {
        ErrataRow row = seeded("book 1 0" + ";letter 0 0".repeat(letters), x);
        for (int[] call : calls) {
          int[] due = plain(letters, x, call[0], call[1], call[2]);
          dueSlips(row, call[0], call[1], call[2], due[0], due[1]);
        }
      }
    }
  }

  private static int next(int x) {
    return (int) (x * 1103515245L + 12345L & 0x7fffffffL);
  }

  /** The n-th x behind this one. */
  private static int behind(int x, int n) {
    int at = x;
    for (int i = 0; i < n; i++) {
      at = next(at);
    }
    return at;
  }

  private static void drawsAtTheirEnds() {
    C.says(0, "a DRAW is x / 65536.");
    // From seeds by which one of the first three x is the least or the greatest of its draw.
    int[] ends = {0, 65535};
    for (int n = 1; n <= 3; n++) {
      for (int end : ends) {
        int rest = 0;
        while (rest < 65536 && behind(rest, n) % 65536 != end) {
          rest++;
        }
        C.isTrue("there is such a seed", rest < 65536);
        for (int high = 0; high < 32768; high += 331) {
          dueDraws(rest + 65536 * high);
        }
      }
    }
  }

  /** The letter drawn is put as drawn, if it is below p: as it is meant then, but not at first. */
  private static void dueDraws(int x) {
    int below = behind(x, 1) / 65536 % 100;
    int letter = behind(x, 2) / 65536 % 10;
    int put = behind(x, 3) / 65536 % 8;
    String book = "book 1 0" + ";letter 1 1".repeat(letter) + ";letter " + (put + 1) % 8 + " " + put
        + ";letter 1 1".repeat(9 - letter);
    ErrataRow row = seeded(book, x);
    dueSlips(row, 1, 1, below, 1, 1);
    dueSlips(row, 1, 1, below + 1, 0, 0);
  }

  private static void nothingStays() {
    C.says(0, "(nothing stays; x as it was).");
    int[] seeds = {0, 1, 2147483647};
    for (int x : seeds) {
      Twins.nothingChanges(C, "slips(10, 60, 100, 1) from " + x, () -> {
        ErrataRow row = Twins.rich();
        row.seed(x);
        return row;
      }, row -> row.slips(10, 60, 100, 1));
    }
    ErrataRow row = seeded(TEN, 1);
    dueSlips(row, 1, 1, 39, 1, 1);
    dueSlips(row, 1, 1, 39, 1, 1);
    C.due("x", row.count(12), 1);
  }

  private static void slipsRefused() {
    C.says(34, "NONE without these, or a BOOK.");
    int[][] refused = {{0, 1, 1, 0}, {-1, 1, 1, 0}, {11, 1, 1, 0}, {12, 60, 100, 1}, {LEAST, 1, 1, 0}, {MOST, 1, 1, 0},
        {1, 0, 1, 0}, {1, -1, 1, 0}, {1, 61, 1, 0}, {10, 62, 100, 1}, {1, LEAST, 1, 0}, {1, MOST, 1, 0}, {1, 1, -1, 0},
        {1, 1, -2, 0}, {1, 1, 101, 0}, {10, 60, 102, 1}, {1, 1, LEAST, 0}, {1, 1, MOST, 0}, {1, 1, 1, -1}, {1, 1, 1, 2},
        {10, 60, 100, 3}, {1, 1, 1, LEAST}, {1, 1, 1, MOST}};
    for (int[] call : refused) {
      String name = "slips(" + call[0] + ", " + call[1] + ", " + call[2] + ", " + call[3] + ")";
      Twins.nothingHappens(C, name, Twins::rich, row -> row.slips(call[0], call[1], call[2], call[3]), -1);
      C.due(name + " without letters", Check.row("book 1 0").slips(call[0], call[1], call[2], call[3]), -1);
    }
    for (int what = 0; what <= 1; what++) {
      int of = what;
      Twins.nothingHappens(C, "slips(1, 1, 0, " + of + ") without a book", ErrataRow::new, row -> row.slips(1, 1, 0, of), -1);
      Twins.nothingHappens(C, "slips(10, 60, 100, " + of + ") without a book", ErrataRow::new,
          row -> row.slips(10, 60, 100, of), -1);
      C.isTrue("slips(10, 60, 100, " + of + ")", Twins.rich().slips(10, 60, 100, of) >= 0);
      C.isTrue("slips(1, 1, 0, " + of + ")", Twins.rich().slips(1, 1, 0, of) >= 0);
    }
  }
}
