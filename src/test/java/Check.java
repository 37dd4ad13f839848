import java.nio.charset.StandardCharsets;

/** Compares answers with those that are due, and feeds texts to a row. */
final class Check {
  private int asked;
  private int wrong;
  private String sentence = "";

  void due(String call, int got, int want) {
    asked++;
    if (got != want) {
      wrong++;
      System.out.println(call + " answered " + got + ", due is " + want + sentence);
    }
  }

  /** From here on it is this sentence that is tested: of a promise, or of the Terms (0). */
  void says(int promise, String quote) {
    sentence = " (" + quote + ")";
    if (Document.isHere()) {
      isTrue("the document says so in " + promise, Document.part(promise).contains(quote));
    }
  }

  void isTrue(String what, boolean holds) {
    due(what, holds ? 1 : 0, 1);
  }

  /** Ends the test's program: with code 1 if an answer was not as due. */
  void close() {
    System.out.println(asked + " asked, " + wrong + " wrong");
    if (wrong != 0 || asked == 0) {
      System.exit(1);
    }
  }

  /** The tape has the text, and nothing else. */
  static void tape(ErrataRow row, String text) {
    row.end(0);
    byte[] bytes = text.getBytes(StandardCharsets.ISO_8859_1);
    for (int at = 0; at < bytes.length; at += 20) {
      row.feed(word(bytes, at), word(bytes, at + 4), word(bytes, at + 8), word(bytes, at + 12),
          word(bytes, at + 16));
    }
    row.end(bytes.length);
  }

  static int word(byte[] bytes, int at) {
    int number = 0;
    for (int i = at; i < at + 4; i++) {
      number = number << 8 | (i < bytes.length ? bytes[i] & 255 : 0);
    }
    return number;
  }

  static int book(ErrataRow row, String text) {
    tape(row, text);
    return row.book();
  }

  static int rule(ErrataRow row, String text) {
    tape(row, text);
    return row.rule();
  }

  /** What book() and rule() answer for a fault. */
  static int fault(int place, int kind) {
    return -2 - (1 + 8 * place + kind);
  }

  /** A book of this text answers so. */
  void dueBook(String text, int want) {
    due("book \"" + text + "\"", book(new ErrataRow(), text), want);
  }

  /** A book of this text, without the mark ^, has a fault where the mark stands. */
  void faultyBook(String marked, int kind) {
    dueBook(marked.replace("^", ""), fault(marked.indexOf('^'), kind));
  }

  /** A rule of this text answers so. */
  void dueRule(String text, int want) {
    due("rule \"" + text + "\"", rule(new ErrataRow(), text), want);
  }

  /** A rule of this text, without the mark ^, has a fault where the mark stands. */
  void faultyRule(String marked, int kind) {
    dueRule(marked.replace("^", ""), fault(marked.indexOf('^'), kind));
  }

  /** A new row with the book, and with the rules, the first of which is in force. */
  static ErrataRow row(String book, String... rules) {
    ErrataRow row = new ErrataRow();
    for (String rule : rules) {
      if (rule(row, rule) < 0) {
        throw new IllegalStateException("no rule: " + rule);
      }
    }
    if (rules.length > 0) {
      row.force(0);
    }
    if (book(row, book) < 0) {
      throw new IllegalStateException("no book: " + book);
    }
    return row;
  }

  /** A row whose letters are put so, one a digit, and meant as 0. */
  static ErrataRow put(String digits) {
    StringBuilder book = new StringBuilder("book 1 0");
    for (char digit : digits.toCharArray()) {
      book.append(";letter ").append(digit).append(" 0");
    }
    return row(book.toString());
  }

  static String repeated(String part, String between, int times) {
    StringBuilder out = new StringBuilder();
    for (int i = 0; i < times; i++) {
      out.append(i == 0 ? "" : between).append(part);
    }
    return out.toString();
  }
}
