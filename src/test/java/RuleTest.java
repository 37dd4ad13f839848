/** Promises 5 (rule) and 6 (force), and what rules say in an EDITION. */
public final class RuleTest {
  private static final Check C = new Check();
  // Letters 0 and 1 are loose, 2 hangs on 1 and is wrong, 3 is right, 4 hangs on 1 and is right.
  private static final String BOOK = "book 2 19;letter 3 5;letter 2 6;letter 1 4;letter 7 7;letter 0 0;"
      + "habit 6 1;habit 7 2;hangs 2 1;hangs 4 1";

  public static void main(String[] args) {
    numbersOfRules();
    eachForItself();
    cannotStand();
    numbers();
    depth();
    values();
    clauses();
    inForce();
    words();
    sums();
    tests();
    choice();
    C.close();
  }

  private static void due(String text, int want) {
    C.due("rule \"" + text + "\"", Check.rule(new ErrataRow(), text), want);
  }

  private static void fault(String text, int place, int kind) {
    due(text, Check.fault(place, kind));
  }

  private static void numbersOfRules() {
    ErrataRow row = new ErrataRow();
    for (int i = 0; i < 6; i++) {
      C.due("rule " + i, Check.rule(row, "mend letter"), i);
      C.due("tape", row.count(13), 0);
      C.due("rules", row.count(3), i + 1);
      C.due("a faulty rule", Check.rule(row, i < 5 ? "mend" : "mend letter"), i < 5 ? Check.fault(4, 0) : -1);
      C.due("rules", row.count(3), i + 1);
    }
    C.due("the tape of a seventh rule stays", row.count(13), 11);
    C.due("a seventh rule, faulty", Check.rule(row, "mend"), -1);
    C.due("its tape stays", row.count(13), 4);
    C.due("in force", row.count(4), -1);
    C.due("edition", row.count(5), 0);
    row = new ErrataRow();
    C.due("a faulty rule", Check.rule(row, "mend 1 1"), Check.fault(7, 0));
    C.due("its tape is empty", row.count(13), 0);
    C.due("rules", row.count(3), 0);
    // Each rule for itself: as many clauses and values as there may be, six times.
    for (int i = 0; i < 3; i++) {
      C.due("rule of 12 clauses", Check.rule(row, Check.repeated("mend put", ";", 12)), 2 * i);
      C.due("rule of 60 values", Check.rule(row, "mend " + Check.repeated("put", "+", 60)), 2 * i + 1);
    }
  }

  private static void eachForItself() {
    String[] rules = {"mend 0", "mend 5 if put = 2;mend 1", "mend 1 if put = 3", "mend " + Check.repeated("letter", "+", 50),
        "mend 0-1+" + Check.repeated("put", "+", 58), "mend 1 if letter > 0 and letter < 3;mend 9 if put = 9"};
    ErrataRow row = Check.row("book 1 9;letter 1 0;letter 3 0;letter 2 0;letter 3 0;letter 7 7", rules);
    int[] want = {-2, 2, 1, 3, 1, 1};
    for (int i = 0; i < 6; i++) {
      row.force(i);
      C.due("edition by rule " + i, row.edition(), want[i]);
      row.undo();
    }
    // Six long ones, which take more room together than one may.
    String[] ends = {"put", "letter", "1", "1-1", "4-put", "letter%3"};
    for (int i = 0; i < 6; i++) {
      rules[i] = "mend " + "0+".repeat(55) + ends[i];
    }
    row = Check.row("book 1 9;letter 1 0;letter 3 0;letter 2 0;letter 3 0;letter 7 7", rules);
    int[] wantOfLong = {1, 3, 0, -2, 0, 2};
    for (int i = 0; i < 6; i++) {
      row.force(i);
      C.due("edition by long rule " + i, row.edition(), wantOfLong[i]);
      row.undo();
    }
  }

  private static void cannotStand() {
    fault("", 0, 0);
    fault("  ", 2, 0);
    fault("mend", 4, 0);
    fault("mend ", 5, 0);
    fault("mends 1", 0, 0);
    fault("Mend 1", 0, 0);
    fault("mend x", 5, 0);
    fault("mend puts", 5, 0);
    fault("mend pu", 5, 0);
    fault("mend 1;", 7, 0);
    fault("mend 1; ", 8, 0);
    fault("mend 1;;mend 1", 7, 0);
    fault("mend 1 mend 1", 7, 0);
    fault("mend mend", 5, 0);
    fault("mend if put=1", 5, 0);
    fault("mend 1 if", 9, 0);
    fault("mend 1 ifput=1", 7, 0);
    fault("mend 1 if put", 13, 0);
    fault("mend 1 if put=", 14, 0);
    fault("mend 1 if put;mend 1", 13, 0);
    fault("mend 1 if owed = 1]", 18, 0);
    fault("mend 1 if [owed = 1", 19, 0);
    fault("mend 1 if [owed = 1;mend 1", 19, 0);
    fault("mend 1 if []", 11, 0);
    fault("mend 1 if [put] = 1", 14, 0);
    fault("mend 1 if put=1 and", 19, 0);
    fault("mend 1 if put=1 or", 18, 0);
    fault("mend 1 if put=1 if put=1", 16, 0);
    fault("mend 1 if put=1 not put=1", 16, 0);
    fault("mend 1 if not", 13, 0);
    fault("mend 1 if nota=1", 10, 0);
    fault("mend 1 if put < 3 < 4", 18, 0);
    fault("mend 1 if put = = 3", 16, 0);
    fault("mend 1 if put == 3", 15, 0);
    fault("mend 1 if put < = 3", 16, 0);
    fault("mend 1 if put =< 3", 15, 0);
    fault("mend 1 if put <> 3", 15, 0);
    fault("mend 1 if put ! 3", 14, 0);
    fault("mend 5 %", 8, 0);
    fault("mend -1", 5, 0);
    fault("mend 1 + + 1", 9, 0);
    fault("mend [1]", 5, 0);
    fault("mend 1 2", 7, 0);
    fault("mend 1put", 6, 0);
    fault("mend put1", 8, 0);
    fault("mend 1 if put=1 and ]", 20, 0);
    fault("mend 1\0", 6, 0);
    fault("mend 1\u00ff", 6, 0);
    fault("book 1 0", 0, 0);
    fault("mend book", 5, 0);
    fault("mend 1 and 1", 7, 0);
    due("mend 1 if [put=1]", 0);
    due("  mend1if[put<=1]and not[not put>=meant]or over<loose;mend wrong+paid-purse*owed/from%to+edition-letter  ", 0);
    due("mend 1 if not not [ [ put > 1 ] ]", 0);
  }

  private static void numbers() {
    due("mend 12345", 0);
    due("mend 00000", 0);
    fault("mend 123456", 5, 1);
    fault("mend 000000", 5, 1);
    fault("mend 1 + 123456", 9, 1);
    fault("mend 1 if put = 123456", 16, 1);
    fault("mend 1 123456", 7, 0);
  }

  private static void depth() {
    String put = "put=1";
    due("mend 1 if " + "[".repeat(10) + put + "]".repeat(10), 0);
    fault("mend 1 if " + "[".repeat(11) + put + "]".repeat(11), 20, 2);
    due("mend 1 if " + "not ".repeat(10) + put, 0);
    fault("mend 1 if " + "not ".repeat(11) + put, 50, 2);
    due("mend 1 if " + "[not ".repeat(5) + put + "]".repeat(5), 0);
    fault("mend 1 if " + "[not ".repeat(5) + "[" + put + "]".repeat(6), 35, 2);
    fault("mend 1 if " + "[not ".repeat(5) + "not " + put + "]".repeat(5), 35, 2);
    // What has been closed is not open any more.
    due("mend 1 if " + Check.repeated("[".repeat(10) + "1=1" + "]".repeat(10), " or ", 3), 0);
    due("mend 1 if " + Check.repeated("not ".repeat(10) + "1=1", " and ", 3), 0);
    due("mend 1 if not 1=1 and " + "[".repeat(10) + put + "]".repeat(10), 0);
    fault("mend 1 if not 1=1 and " + "[".repeat(11), 32, 2);
    due("mend 1 if " + "[".repeat(9) + "not 1=1 and not [" + put + "]]".substring(1) + "]".repeat(9),
        Check.fault(10 + 9 + 16, 2));
  }

  private static void values() {
    due("mend " + Check.repeated("1", "+", 60), 0);
    fault("mend " + Check.repeated("1", "+", 61), 125, 3);
    fault("mend " + Check.repeated("1", "+", 60) + "+123456", 125, 1);
    fault("mend " + Check.repeated("1", "+", 60) + "+x", 125, 0);
    fault("mend " + Check.repeated("1", "+", 60) + "+", 125, 0);
    fault("mend " + Check.repeated("1", "+", 60) + "+put", 125, 3);
    // 57 values, then a fact of three: as many as there may be.
    String many = "mend " + Check.repeated("1", "+", 57);
    due(many + " if 1 = 1", 0);
    fault(many + "+1 if 1 = 1", 5 + 115 + 8, 3);
    fault(many + "+1+1 if 1 = 1", 5 + 117 + 6, 3);
    fault(many + "+1+1 if 1 <= 1", 5 + 117 + 6, 3);
    fault(many + "+1+1+1 if 1 = 1", 5 + 119 + 4, 3);
    fault(many + "+1+1 if 1 x 1", 5 + 117 + 6, 0);
    // All clauses together.
    due("mend 1;" + "mend " + Check.repeated("1", "+", 59), 0);
    fault("mend 1;" + "mend " + Check.repeated("1", "+", 60), 7 + 5 + 118, 3);
    // Brackets and not are none of these.
    due("mend 1 if not [" + Check.repeated("1=1", " or ", 19) + "]", 0);
    due("mend 1+1+1 if not [" + Check.repeated("1=1", " or ", 19) + "]", 0);
    fault("mend 1+1+1+1 if [" + Check.repeated("1=1", " or ", 19) + "]", 17 + 18 * 7 + 2, 3);
  }

  private static void clauses() {
    due(Check.repeated("mend 1", ";", 12), 0);
    fault(Check.repeated("mend 1", ";", 13), 84, 4);
    fault(Check.repeated("mend 1", ";", 12) + "; mend", 85, 4);
    fault(Check.repeated("mend 1", ";", 12) + ";x", 84, 0);
    fault(Check.repeated("mend 1", ";", 12) + ";", 84, 0);
  }

  private static void inForce() {
    ErrataRow row = new ErrataRow();
    Check.rule(row, "mend letter");
    Check.rule(row, "mend 0");
    C.due("force(2)", row.force(2), -2);
    C.due("force(-2)", row.force(-2), -2);
    C.due("force(most)", row.force(Integer.MAX_VALUE), -2);
    C.due("in force", row.count(4), -1);
    C.due("force(1)", row.force(1), -1);
    C.due("in force", row.count(4), 1);
    C.due("force(0)", row.force(0), 1);
    C.due("force(5)", row.force(5), -2);
    C.due("force(0)", row.force(0), 0);
    Check.book(row, BOOK);
    C.due("in force behind a book", row.count(4), 0);
    C.due("edition by rule 0", row.edition(), 1);
    C.due("undo", row.undo(), 0);
    C.due("force(1)", row.force(1), 0);
    C.due("edition by rule 1", row.edition(), -2);
    C.due("undo", row.undo(), 0);
    C.due("force(NONE)", row.force(-1), 1);
    C.due("edition by none", row.edition(), 0);
  }

  /** Whether the test holds for letter 1 in the book's second edition. */
  private static boolean holds(String test) {
    ErrataRow row = Check.row(BOOK, "mend 1 if edition = 1 and letter = 1 and [" + test + "]");
    // In edition 0 nothing is mended, and no letter is put as 6; three are wrong and paid.
    C.due("edition 0", row.edition(), -2);
    int mended = row.edition();
    C.isTrue("none or 1", mended == -2 || mended == 1);
    return mended == 1;
  }

  private static void held(String test) {
    C.isTrue(test + " holds", holds(test));
    C.isTrue("not " + test + " does not", !holds("not [" + test + "]"));
  }

  private static void words() {
    held("letter = 1");
    held("put = 2");
    held("meant = 6");
    held("over = 1");
    held("loose = 2");
    held("wrong = 3");
    held("paid = 1");
    held("purse = 13");
    held("owed = 0");
    held("from = 7");
    held("to = 2");
    held("edition = 1");
    // Of letters 0, paid once, and 1, not paid, the second one has the sum 1 then.
    ErrataRow row = Check.row("book 9 10;letter 0 1;letter 0 1", "mend owed if paid = 0;mend 0");
    C.due("edition 0", row.edition(), -2);
    C.due("owed", row.count(9), 1);
    C.due("edition 1", row.edition(), 1);
  }

  private static void sums() {
    held("2 + 3 * 4 = 14");
    held("2 * 3 + 4 = 10");
    held("20 - 3 - 4 = 13");
    held("20 - 3 + 4 = 21");
    held("100 / 5 / 2 = 10");
    held("100 / 7 * 7 = 98");
    held("7 * 3 % 4 = 1");
    held("17 % 5 * 2 = 4");
    held("17 / 5 = 3");
    held("17 / 0 = 0");
    held("17 % 0 = 0");
    held("5 / 0 + 1 = 1");
    held("3 - 5 < 0");
    held("0 - 7 / 2 = 0 - 3");
    held("99999 - 99998 = 1");
    // 99999 * 99999 * 99999 * 50000 is beyond 64 bits: it goes round, below 0.
    long round = 99999L * 99999L * 99999L * 50000L;
    C.isTrue("below 0", round < 0);
    held("99999 * 99999 * 99999 * 50000 < 0");
    held("99999 * 99999 * 99999 * 50000 / 99999 / 99999 / 99999 = 0 - " + -(round / 99999 / 99999 / 99999));
    held("99999 * 99999 * 99999 * 50000 % 1000 = 0 - " + -(round % 1000));
    C.isTrue("towards 0", round / 99999 / 99999 / 99999 != Math.floorDiv(round, 99999L * 99999L * 99999L));
    // 2 to the 63rd goes round to the least; by -1 it stays the least.
    String least = "32768 * 32768 * 32768 * 32768 * 8";
    held(least + " < 0");
    held(least + " - 1 > 0");
  }

  private static void tests() {
    held("1 < 2");
    C.isTrue("1 < 1", !holds("1 < 1"));
    held("1 <= 1");
    C.isTrue("2 <= 1", !holds("2 <= 1"));
    C.isTrue("1 = 2", !holds("1 = 2"));
    held("1 >= 1");
    C.isTrue("1 >= 2", !holds("1 >= 2"));
    held("2 > 1");
    C.isTrue("1 > 1", !holds("1 > 1"));
    held("1 = 1 or 1 = 2 and 1 = 2");
    C.isTrue("[or] and", !holds("[1 = 1 or 1 = 2] and 1 = 2"));
    held("1 = 2 and 1 = 2 or 1 = 1");
    held("not 1 = 2 or 1 = 1");
    C.isTrue("not is of one fact", !holds("not 1 = 2 and 1 = 2"));
    held("not not 1 = 1");
    held("not [1 = 1 and 1 = 2]");
    held("1 = 2 or 1 = 2 or 1 = 1");
    C.isTrue("and and", !holds("1 = 1 and 1 = 1 and 1 = 2"));
  }

  private static int chosen(String rule) {
    return Check.row("book 1 9;letter 1 0;letter 3 0;letter 2 0;letter 3 0;letter 7 7", rule).edition();
  }

  private static void choice() {
    C.due("the greatest, of several the least", chosen("mend put"), 1);
    C.due("the greatest", chosen("mend letter"), 3);
    C.due("of all alike the least", chosen("mend 1"), 0);
    C.due("0 is not above 0", chosen("mend 0"), -2);
    C.due("below 0", chosen("mend 0 - 1"), -2);
    C.due("one is above 0", chosen("mend put - 2"), 1);
    C.due("without a clause that holds it is 0", chosen("mend 9 if put = 6"), -2);
    C.due("the first clause that holds", chosen("mend 5 if put = 2;mend 3"), 2);
    C.due("the first one, though it is less", chosen("mend 2 if put = 2;mend 3"), 0);
    C.due("the first one, though it is 0", chosen("mend 0 if letter < 3;mend 3"), 3);
    C.due("a clause without a test ends it", chosen("mend 0;mend 3"), -2);
    C.due("the second test", chosen("mend 9 if put = 6;mend 4 if letter = 2;mend 1 if letter = 1"), 2);
    // The greatest number of 64 bits, against one that went round.
    C.due("it went round", chosen("mend 32768*32768*32768*32768*8 if put = 3;mend 1"), 0);
    C.due("the greatest there is", chosen("mend 32768*32768*32768*32768*8-1 if letter = 2;mend 99999"), 2);
  }
}
