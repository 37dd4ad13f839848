/** The boundaries of what the Terms say of RULES and their FAULTS, and of promises 5 (rule) and 6 (force). */
public final class RuleEdgesTest {
  private static final Check C = new Check();
  private static final String TEN = "book 1 0" + ";letter 0 7".repeat(10);

  public static void main(String[] args) {
    sixRules();
    bytes();
    twelveClauses();
    testsCannotStand();
    testsMean();
    sumsCannotStand();
    sumsMean();
    numbers();
    wordsCannotStand();
    wordsLetterByLetter();
    wordsOfALetter();
    wordsOfAll();
    wordsCountedTo999();
    partsAndRests();
    inSixtyFourBits();
    blanks();
    deep();
    values();
    theEnd();
    eachByte();
    numbersOfSigns();
    theFirstAlongTheText();
    theLeastOfOnePlace();
    aRule();
    aFaultyRule();
    aSeventhRule();
    force();
    C.close();
  }

  /** Which letter is mended by the rule in the book's first edition (-2: none). */
  private static int mended(String book, String rule) {
    return Check.row(book, rule).edition();
  }

  /** Of one loose letter 0, put as 3 and meant as 5: it is mended, if the test holds. */
  private static boolean holds(String test) {
    int mended = mended("book 1 9;letter 3 5", "mend 1 if " + test);
    C.isTrue("none or 0", mended == -2 || mended == 0);
    return mended == 0;
  }

  private static void held(String test) {
    C.isTrue(test + " holds", holds(test));
  }

  private static void notHeld(String test) {
    C.isTrue(test + " does not hold", !holds(test));
  }

  private static void sixRules() {
    C.says(0, "RULES 0 to 5: texts likewise, 12 CLAUSES at most:");
    ErrataRow row = new ErrataRow();
    for (int i = 0; i <= 5; i++) {
      C.due("rule()", Check.rule(row, "mend 1 if letter = " + i), i);
      C.due("rules", row.count(3), i + 1);
    }
    C.due("a seventh one", Check.rule(row, "mend 1"), -1);
    C.due("rules", row.count(3), 6);
    Check.book(row, TEN);
    for (int i = 5; i >= 0; i--) {
      row.force(i);
      C.due("edition by rule " + i, row.edition(), i);
    }
  }

  private static void bytes() {
    C.says(0, "texts likewise");
    C.due("its last byte of 400 counts", mended(TEN, "mend" + " ".repeat(386) + "letter + 1"), 9);
    C.due("all 400", mended(TEN, "mend letter" + " ".repeat(387) + "+1"), 9);
    C.faultyRule("mend 1" + " ".repeat(393) + "^x", 0);
    C.faultyRule("mend 1" + " ".repeat(393) + ";^", 0);
    C.faultyRule("mend 1 if 1" + " ".repeat(388) + "<^", 0);
    C.faultyRule("mend 1 if 1" + " ".repeat(388) + ">^", 0);
    C.faultyRule("mend 1 if 1" + " ".repeat(387) + "<=^", 0);
    // What stood there before is not read: the tape ends behind <.
    ErrataRow row = new ErrataRow();
    Check.tape(row, "mend 1 if 1<=1");
    row.end(12);
    row.feed(0x20202020, 0x20202020, 0x20202020, 0x20202020, 0x20203120);
    C.due("< and not <=", row.rule(), 0);
    C.faultyRule("^", 0);
    C.dueRule("mend 1", 0);
    C.faultyRule("^;mend 1", 0);
    C.faultyRule("mend 1;^", 0);
    C.faultyRule("mend 1;^;mend 1", 0);
    C.faultyRule("mend 1 ^mend 1", 0);
  }

  private static void twelveClauses() {
    C.says(0, "12 CLAUSES at most:");
    C.dueRule(Check.repeated("mend 1", ";", 11), 0);
    C.dueRule(Check.repeated("mend 1", ";", 12), 0);
    C.faultyRule(Check.repeated("mend 1", ";", 12) + ";^mend 1", 4);
    C.faultyRule(Check.repeated("mend 1 if 1=1", ";", 12) + " ;  ^mend", 4);
    // The twelfth one counts, too.
    C.due("the twelfth", mended(TEN, "mend 0 if 1=2;".repeat(11) + "mend letter"), 9);
    C.due("the twelfth with a test", mended(TEN, "mend 0 if 1=2;".repeat(11) + "mend 1 if letter=4"), 4);
    C.due("the twelfth does not hold", mended(TEN, "mend 0 if 1=2;".repeat(11) + "mend 1 if letter=10"), -2);
    C.due("the first of twelve", mended(TEN, "mend 1 if letter=4;" + "mend 0;".repeat(10) + "mend letter"), 4);
  }

  private static void testsCannotStand() {
    C.says(0, "mend SUM [ if TEST ]. TEST: PART { or PART }. PART: FACT { and FACT }. FACT: not FACT | [ TEST ]"
        + " (these brackets are signs) | SUM SIGN SUM, SIGN one of < <= = >= >.");
    C.faultyRule("^1", 0);
    C.faultyRule("^if 1=1", 0);
    C.faultyRule("mend ^if 1=1", 0);
    C.faultyRule("mend ^mend 1", 0);
    C.faultyRule("mend 1 ^1=1", 0);
    C.faultyRule("mend 1 ^[1=1]", 0);
    C.faultyRule("mend 1 ^[ if 1=1 ]", 0);
    C.faultyRule("mend 1 if ^if 1=1", 0);
    C.faultyRule("mend 1 if 1=1 ^if 1=1", 0);
    C.faultyRule("mend 1 if ^or 1=1", 0);
    C.faultyRule("mend 1 if ^and 1=1", 0);
    C.faultyRule("mend 1 if 1=1 or ^or 1=1", 0);
    C.faultyRule("mend 1 if 1=1 or ^and 1=1", 0);
    C.faultyRule("mend 1 if 1=1 and ^or 1=1", 0);
    C.faultyRule("mend 1 if 1=1 and ^if 1=1", 0);
    C.faultyRule("mend 1 if not ^and 1=1", 0);
    C.faultyRule("mend 1 if 1=1 ^not 1=1", 0);
    C.faultyRule("mend 1 if [^]", 0);
    C.faultyRule("mend 1 if [1=1^)", 0);
    C.faultyRule("mend 1 if ^(1=1)", 0);
    C.faultyRule("mend 1 if [1=1]^]", 0);
    C.faultyRule("mend 1 if 1=1^]", 0);
    C.faultyRule("mend 1 if [1=1^;mend 1", 0);
    C.faultyRule("mend 1 if [1^]=1", 0);
    C.faultyRule("mend 1 if 1=^[1]", 0);
    C.faultyRule("mend 1 if [1=1] ^[1=1]", 0);
    C.faultyRule("mend 1 if [1=1] ^= 1", 0);
    C.faultyRule("mend 1 if 1=1^=1", 0);
    C.faultyRule("mend 1 if 1=^=1", 0);
    C.faultyRule("mend 1 if 1=^<1", 0);
    C.faultyRule("mend 1 if 1=^>1", 0);
    C.faultyRule("mend 1 if 1<^>1", 0);
    C.faultyRule("mend 1 if 1>^<1", 0);
    C.faultyRule("mend 1 if 1<^<1", 0);
    C.faultyRule("mend 1 if 1< ^=1", 0);
    C.faultyRule("mend 1 if 1> ^=1", 0);
    C.faultyRule("mend 1 if 1<=^=1", 0);
    C.faultyRule("mend 1 if 1>=^=1", 0);
    C.faultyRule("mend 1 if 1 ^! 1", 0);
    C.faultyRule("mend 1 if 1 ^1", 0);
    C.faultyRule("mend 1 if not 1 ^and 1=1", 0);
    C.dueRule("mend 1 if not[1=1 or 1<1 and not 1<=1]and[[1>=1]]or not not 1>1", 0);
  }

  private static void testsMean() {
    C.says(0, "SIGN one of < <= = >= >.");
    String[] signs = {"<", "<=", "=", ">=", ">"};
    // For the first sum less, the same, more.
    boolean[][] want = {{true, false, false}, {true, true, false}, {false, true, false}, {false, true, true},
        {false, false, true}};
    for (int i = 0; i < 5; i++) {
      for (int left = 2; left <= 4; left++) {
        C.isTrue(left + signs[i] + "3", holds(left + signs[i] + "3") == want[i][left - 2]);
      }
    }
    C.says(0, "TEST: PART { or PART }. PART: FACT { and FACT }. FACT: not FACT | [ TEST ]");
    String[] facts = {"1=2", "1=1"};
    for (int bits = 0; bits < 8; bits++) {
      boolean a = (bits & 1) != 0;
      boolean b = (bits & 2) != 0;
      boolean c = (bits & 4) != 0;
      String one = facts[bits & 1];
      String two = facts[bits >> 1 & 1];
      String three = facts[bits >> 2];
      dueTest(one + " or " + two + " and " + three, a || b && c);
      dueTest(one + " and " + two + " or " + three, a && b || c);
      dueTest("[" + one + " or " + two + "] and " + three, (a || b) && c);
      dueTest(one + " and [" + two + " or " + three + "]", a && (b || c));
      dueTest("not " + one + " and " + two + " or " + three, !a && b || c);
      dueTest("not [" + one + " and " + two + "] or " + three, !(a && b) || c);
      dueTest("not [" + one + " or " + two + " or " + three + "]", !(a || b || c));
      dueTest(one + " and not " + two + " and not not " + three, a && !b && c);
    }
  }

  private static void dueTest(String test, boolean want) {
    C.isTrue(test + (want ? " holds" : " does not hold"), holds(test) == want);
  }

  private static void sumsCannotStand() {
    C.says(0, "SUM: TERM { (+ or -) TERM }. TERM: VALUE { (* or / or %) VALUE }.");
    String signs = "+-*/%";
    for (int i = 0; i < 5; i++) {
      char sign = signs.charAt(i);
      C.faultyRule("mend ^" + sign + "1", 0);
      C.faultyRule("mend 1" + sign + "^", 0);
      C.faultyRule("mend 1" + sign + "^;mend 1", 0);
      C.faultyRule("mend 1" + sign + "^if 1=1", 0);
      C.faultyRule("mend 1 if 1" + sign + "^=1", 0);
      C.faultyRule("mend 1 if ^" + sign + "1=1", 0);
      for (int j = 0; j < 5; j++) {
        C.faultyRule("mend 1" + sign + "^" + signs.charAt(j) + "1", 0);
      }
      C.dueRule("mend 1" + sign + "put if put" + sign + "1=1" + sign + "put", 0);
    }
    C.faultyRule("mend ^(1)", 0);
    C.faultyRule("mend ^[1]", 0);
    C.faultyRule("mend 1^<1", 0);
    C.faultyRule("mend 1 ^and 1", 0);
  }

  private static void sumsMean() {
    C.says(0, "SUM: TERM { (+ or -) TERM }. TERM: VALUE { (* or / or %) VALUE }.");
    held("2+3*4=14");
    held("2*3+4=10");
    held("20-3-4=13");
    held("20-3+4=21");
    held("20-12/4=17");
    held("20-12%5=18");
    held("100/5/2=10");
    held("100/5*2=40");
    held("7*3%4=1");
    held("17%5*2=4");
    held("100%7%2=0");
    held("100/7%5=4");
    held("1+2*3-8/4+9%5=9");
    held("3-5<0");
  }

  private static void numbers() {
    C.says(0, "VALUE: NUMBER (1 to 5 digits, as far as digits go on) | WORD.");
    C.dueRule("mend 7", 0);
    C.dueRule("mend 99999", 0);
    C.dueRule("mend 00000", 0);
    C.faultyRule("mend ^000000", 1);
    C.faultyRule("mend ^100000", 1);
    C.faultyRule("mend ^4294967296", 1);
    C.faultyRule("mend 1 if ^000000=1", 1);
    C.faultyRule("mend 1 if 1=^000000", 1);
    C.faultyRule("mend 1+^000000", 1);
    C.faultyRule("mend 1*^000000", 1);
    C.faultyRule("mend 12 ^345", 0);
    C.faultyRule("mend 1^put", 0);
    held("00012=12");
    held("99999-99998=1");
    held("99999>99998");
    held("10000/10=1000");
    held("0=0");
    held("12345=12344+1");
  }

  private static void wordsCannotStand() {
    C.says(0, "WORDS (small letters, as far as these go on) of a LETTER that is LOOSE:");
    String[] words = {"letter", "put", "meant", "over", "loose", "wrong", "paid", "purse", "owed", "from", "to", "edition"};
    for (String word : words) {
      C.dueRule("mend " + word, 0);
      C.dueRule("mend 1 if 1=" + word + " or " + word + "=1", 0);
      C.faultyRule("mend ^" + word + "s", 0);
      C.faultyRule("mend ^a" + word, 0);
      C.faultyRule("mend ^" + word.substring(0, word.length() - 1), 0);
      C.faultyRule("mend ^" + word.substring(1), 0);
      C.faultyRule("mend ^" + word.toUpperCase(), 0);
      C.faultyRule("mend " + word + "^1", 0);
      C.faultyRule("mend " + word + " ^" + word, 0);
    }
    String[] others = {"book", "habit", "hangs", "mend", "if", "or", "and", "not", "quarter", "x", "none"};
    for (String other : others) {
      C.faultyRule("mend ^" + other, 0);
      C.faultyRule("mend 1 if 1=^" + other, 0);
    }
    C.faultyRule("^mends 1", 0);
    C.faultyRule("^men 1", 0);
    C.faultyRule("mend 1 ^iff 1=1", 0);
    C.faultyRule("mend 1 ^ifput=1", 0);
    C.faultyRule("mend 1 if 1=1 ^ors 1=1", 0);
    C.faultyRule("mend 1 if 1=1 ^andput=1", 0);
    C.faultyRule("mend 1 if ^notput=1", 0);
    C.dueRule("mend1if not1=1and1=1or1=1", 0);
  }

  /** With another letter for any of its own the word can't stand there. */
  private static void eachLetterCounts(String before, String word, String behind, boolean inABook) {
    for (int i = 0; i < word.length(); i++) {
      char[] others = {'x', (char) (word.charAt(i) + 1), (char) (word.charAt(i) - 1)};
      for (char other : others) {
        String marked = before + "^" + word.substring(0, i) + other + word.substring(i + 1) + behind;
        if (inABook) {
          C.faultyBook(marked, 0);
        } else {
          C.faultyRule(marked, 0);
        }
      }
    }
  }

  private static void wordsLetterByLetter() {
    C.says(0, "0 a byte or WORD that can't stand there");
    String[] words = {"letter", "put", "meant", "over", "loose", "wrong", "paid", "purse", "owed", "from", "to", "edition"};
    for (String word : words) {
      eachLetterCounts("mend ", word, "", false);
      eachLetterCounts("mend 1 if 1=", word, "", false);
    }
    eachLetterCounts("", "mend", " 1", false);
    eachLetterCounts("mend 1 ", "if", " 1=1", false);
    eachLetterCounts("mend 1 if 1=1 ", "or", " 1=1", false);
    eachLetterCounts("mend 1 if 1=1 ", "and", " 1=1", false);
    eachLetterCounts("mend 1 if ", "not", " 1=1", false);
    eachLetterCounts("", "book", " 1 0", true);
    eachLetterCounts("book 1 0;", "letter", " 1 1", true);
    eachLetterCounts("book 1 0;", "habit", " 1 1", true);
    eachLetterCounts("book 1 0;letter 1 1;letter 1 1;", "hangs", " 0 1", true);
  }

  private static void wordsOfALetter() {
    C.says(0, "of a LETTER that is LOOSE: letter, put, meant, over (how many WRONG LETTERS HANG on it),");
    for (int i = 0; i <= 9; i++) {
      C.due("letter = " + i, mended(TEN, "mend 1 if letter = " + i), i);
    }
    C.due("letter = 10", mended(TEN, "mend 1 if letter = 10"), -2);
    for (int put = 0; put <= 7; put++) {
      String book = "book 1 0;letter " + put + " " + (7 - put);
      C.due("put = " + put, mended(book, "mend 1 if put = " + put), 0);
      C.due("put > " + put, mended(book, "mend 1 if put > " + put), -2);
      C.due("meant = " + (7 - put), mended(book, "mend 1 if meant = 7 - " + put), 0);
      C.due("meant < " + (7 - put), mended(book, "mend 1 if meant < 7 - " + put), -2);
    }
    // So many that are wrong hang on letter 0, and behind them all others that are right.
    for (int many = 0; many <= 9; many++) {
      StringBuilder book = new StringBuilder("book 1 0;letter 0 1");
      for (int i = 1; i <= 9; i++) {
        book.append(i <= many ? ";letter 0 1" : ";letter 0 0");
      }
      for (int i = 1; i <= 9; i++) {
        book.append(";hangs ").append(i).append(" 0");
      }
      C.due("over = " + many, mended(book.toString(), "mend 1 if over = " + many), 0);
      C.due("over > " + many, mended(book.toString(), "mend 1 if over > " + many), -2);
    }
    // Only what hangs on itself counts, not what it hangs on, nor what hangs on others.
    String chain = "book 1 0;letter 0 1;letter 0 1;letter 0 1;letter 0 0;hangs 0 1;hangs 1 2;hangs 2 3";
    C.due("over of the last", mended(chain, "mend 1 if over = 1"), 2);
    C.due("over of the last, on which the first hangs", mended(TEN + ";hangs 0 9", "mend 1 if over = 1"), 9);
    C.due("over of the first, on which the last hangs", mended(TEN + ";hangs 9 0", "mend 1 if over = 1"), 0);
    // Of letters that are not loose nothing is asked.
    C.due("not loose", mended(chain, "mend 1 if letter < 2"), -2);
  }

  private static void wordsOfAll() {
    C.says(0, "loose (how many are LOOSE), wrong (how many are WRONG), paid (how often it was PAID), purse, owed, from,"
        + " to (of this EDITION's habit), edition.");
    for (int wrong = 1; wrong <= 10; wrong++) {
      String book = "book 1 0" + ";letter 0 1".repeat(wrong) + ";letter 0 0".repeat(10 - wrong);
      C.due("wrong = loose = " + wrong, mended(book, "mend 1 if wrong = " + wrong + " and loose = " + wrong), 0);
      C.due("wrong > " + wrong, mended(book, "mend 1 if wrong > " + wrong + " or loose > " + wrong), -2);
      if (wrong > 1) {
        C.due("one of them hangs", mended(book + ";hangs 1 0", "mend 1 if wrong = loose + 1 and wrong = " + wrong), 0);
      }
    }
    C.due("purse = 0", mended("book 1 0;letter 0 1", "mend 1 if purse = 0"), 0);
    C.due("purse = 999", mended("book 1 999;letter 0 1", "mend 1 if purse = 999"), 0);
    C.due("owed = paid = edition = 0", mended("book 1 9;letter 0 1", "mend 1 if owed + paid + edition = 0"), 0);
    C.due("from = 7, to = 0", mended("book 1 9;letter 0 1;habit 7 0", "mend 1 if from = 7 and to = 0"), 0);
    C.due("from = 0, to = 7", mended("book 1 9;letter 0 1;habit 0 7", "mend 1 if from = 0 and to = 7"), 0);
    // Paid in editions 0 and 1, owed in 2 and 3: the letter is mended in that edition in which the test holds.
    String book = "book 3 8;letter 5 6;letter 4 4;habit 1 2;habit 3 0;habit 2 7";
    int[] paid = {0, 1, 2, 2, 2};
    int[] owed = {0, 0, 0, 1, 2};
    int[] purse = {8, 5, 2, 2, 2};
    int[] from = {1, 3, 2, 1, 3};
    int[] to = {2, 0, 7, 2, 0};
    for (int i = 0; i < 5; i++) {
      String test = "edition=" + i + " and paid=" + paid[i] + " and owed=" + owed[i] + " and purse=" + purse[i] + " and from="
          + from[i] + " and to=" + to[i];
      C.due(test, Check.row(book, "mend 1 if " + test).firstRight(0), i);
    }
  }

  private static void wordsCountedTo999() {
    C.says(0, "PAID 999 times at most are counted), else is OWED one more (999 at most).");
    ErrataRow row = Check.row(TEN, "mend 0", "mend 1 if owed = 999", "mend 1 if owed > 999");
    for (int i = 0; i < 99; i++) {
      row.edition();
    }
    row.force(1);
    C.due("owed 990: none is mended", row.edition(), -2);
    C.due("owed", row.count(9), 999);
    C.due("owed 999: one is", row.edition(), 0);
    row.force(2);
    C.due("owed is 999 still", row.edition(), -2);
    C.due("owed", row.count(9), 999);
  }

  private static void partsAndRests() {
    C.says(0, "/ is towards 0, % its rest, both 0 by 0;");
    held("17/5=3");
    held("17%5=2");
    held("4/5=0");
    held("4%5=4");
    held("5/5=1");
    held("5%5=0");
    held("0/5=0");
    held("17/0=0");
    held("17%0=0");
    held("0/0=0");
    held("0%0=0");
    held("7/0+1=1");
    held("7%0+1=1");
    held("put/owed=0");
    held("put%owed=0");
    // Only a product that went round is below 0 ahead of / and %.
    String below = "60000*60000*60000*60000";
    long number = 60000L * 60000L * 60000L * 60000L;
    C.isTrue("it is below 0", number < 0);
    held(below + "<0");
    held(below + "/7*7>" + below);
    held("0-" + -(number % 7) + "=" + below + "%7");
    held("0-" + -(number / 1000 / 1000 / 1000 / 1000 / 1000) + "=" + below + "/1000/1000/1000/1000/1000");
    notHeld(below + "%7>0");
    held(below + "%7<0");
    held(below + "%0=0");
    held(below + "/0=0");
  }

  private static void inSixtyFourBits() {
    C.says(0, "all goes round in 64 bits.");
    // 2 to the 62nd is the last power that does not go round.
    String power62 = "32768*32768*32768*32768*4";
    held(power62 + ">0");
    held(power62 + "-1+" + power62 + ">0");
    held(power62 + "+" + power62 + "<0");
    held(power62 + "*2<0");
    held(power62 + "*2-1>0");
    held(power62 + "*4=0");
    held(power62 + "*2=0-" + power62 + "-" + power62);
    held("0-" + power62 + "-" + power62 + "<0");
    held("0-" + power62 + "-" + power62 + "-1>0");
    // 32 bits are not enough: 65536 * 65536 is not 0, and 46341 * 46341 is above 0.
    held("65536*65536>0");
    held("46341*46341>0");
    held("65536*32768/32768=65536");
    C.due("a sum of 2 to the 63rd is below 0", mended("book 1 9;letter 3 5", "mend " + power62 + "*2"), -2);
    C.due("the greatest sum of all", mended(TEN, "mend " + power62 + "*2-1 if letter=6;mend " + power62), 6);
    C.due("2 to the 32nd is above 0", mended(TEN, "mend 65536*65536 if letter=6;mend 99999"), 6);
  }

  private static void blanks() {
    C.says(0, "Blanks (32) stand between as one likes.");
    C.dueRule("mend1if1=1and not1=2or[1<2];mend2", 0);
    C.dueRule("  mend  1  if  1  =  1  and  not  1  =  2  or  [  1  <  2  ]  ;  mend  2  ", 0);
    C.dueBook("  book  1  0  ;  letter  1  2  ;  habit  3  4  ", 1);
    C.dueBook("book1 0;letter1 2;habit3 4", 1);
    C.faultyRule("mend 1 if 1 < ^= 2", 0);
    C.faultyRule("^me nd 1", 0);
    C.faultyRule("mend 1 ^2", 0);
    C.faultyRule("mend^\t1", 0);
    C.faultyRule("mend 1^\n", 0);
    C.faultyRule("mend 1^\r", 0);
    C.faultyRule("mend 1^" + (char) 160, 0);
    C.faultyRule("mend 1^" + (char) 31, 0);
    C.faultyRule("mend 1^!", 0);
    C.faultyRule("mend 1^\0", 0);
  }

  private static void deep() {
    C.says(0, "[ and not lie within one another 10 deep at most;");
    C.says(0, "2 too deep (at the sign that opens, or the word not);");
    for (int deep = 0; deep <= 10; deep++) {
      C.dueRule("mend 1 if " + "[".repeat(deep) + "1=1" + "]".repeat(deep), 0);
      C.dueRule("mend 1 if " + "not ".repeat(deep) + "1=1", 0);
      C.dueRule("mend 1 if " + "not ".repeat(deep) + "[".repeat(10 - deep) + "1=1" + "]".repeat(10 - deep), 0);
      C.dueRule("mend 1 if " + "[".repeat(deep) + "not ".repeat(10 - deep) + "1=1" + "]".repeat(deep), 0);
      C.faultyRule("mend 1 if " + "not ".repeat(deep) + "[".repeat(10 - deep) + "^[1=1]", 2);
      C.faultyRule("mend 1 if " + "[".repeat(deep) + "not ".repeat(10 - deep) + "^not 1=1", 2);
    }
    C.faultyRule("mend 1 if " + "[".repeat(10) + "^[" + "1=1" + "]".repeat(11), 2);
    C.faultyRule("mend 1 if " + "[".repeat(10) + "  ^not 1=1", 2);
    // What is behind a fact is as deep as that fact, and what was closed is closed.
    String ten = "[".repeat(10) + "1=1" + "]".repeat(10);
    C.dueRule("mend 1 if " + ten + " or " + ten + " and " + ten + ";mend 1 if " + ten, 0);
    C.dueRule("mend 1 if not not 1=1 and " + "not ".repeat(10) + "1=1 or " + ten, 0);
    C.faultyRule("mend 1 if " + "[".repeat(9) + "not 1=1 or not ^[1=1]", 2);
    C.faultyRule("mend 1 if " + "[".repeat(9) + "[1=1] and [^[1=1]]", 2);
    C.dueRule("mend 1 if " + "[".repeat(9) + "not 1=1 or [1=1] and not 1=1" + "]".repeat(9), 0);
    C.faultyRule("mend 1 if " + "[".repeat(10) + "1=1 or ^not 1=1", 2);
    held("not ".repeat(10) + "1=1");
    notHeld("not ".repeat(9) + "1=1");
    held("[".repeat(9) + "not 1=2" + "]".repeat(9));
  }

  private static void values() {
    C.says(0, "at most 60 VALUES (of SUMS) and FACTS made of a SIGN, together.");
    C.says(0, "3 one VALUE or FACT too many (at its first byte; of a FACT at its SIGN);");
    String sixty = "mend " + Check.repeated("1", "+", 60);
    C.dueRule("mend " + Check.repeated("1", "+", 59), 0);
    C.dueRule(sixty, 0);
    C.faultyRule(sixty + "+^1", 3);
    C.faultyRule(sixty + "*  ^put", 3);
    C.faultyRule(sixty + "+^99999", 3);
    C.faultyRule(sixty + ";mend ^1", 3);
    C.faultyRule(sixty + " if ^1=1", 3);
    C.faultyRule(sixty + " if [not ^put=1]", 3);
    String of59 = "mend " + Check.repeated("1", "-", 59);
    C.dueRule(of59 + "-1", 0);
    C.faultyRule(of59 + " if 1 ^= 1", 3);
    C.faultyRule(of59 + " if 1^<=1", 3);
    C.faultyRule(of59 + " if 1^>=1", 3);
    C.faultyRule(of59 + " if 1+^1=1", 3);
    String of58 = "mend " + Check.repeated("1", "*", 58);
    C.faultyRule(of58 + " if 1=^1", 3);
    String of57 = "mend " + Check.repeated("1", "%", 57);
    C.dueRule(of57 + " if 1=1", 0);
    C.faultyRule(of57 + " if 1=1+^1", 3);
    C.faultyRule(of57 + " if 1=1 and ^1=1", 3);
    C.faultyRule(of57 + " if 1=1;mend ^1", 3);
    // not, brackets, and, or are none of these: 20 facts are 60 by themselves, and there is one sum.
    String facts = Check.repeated("1=1", " or ", 19);
    C.dueRule("mend 1+1+1 if not[" + facts + "]", 0);
    C.faultyRule("mend 1+1+1 if not[" + facts + " and ^1=1]", 3);
    C.faultyRule("mend 1+1+1 if not[" + facts + "];mend ^1", 3);
    // Each rule by itself: six of them with sixty values, and faulty ones between.
    ErrataRow row = new ErrataRow();
    for (int i = 0; i <= 5; i++) {
      C.due("rule " + i + " of sixty", Check.rule(row, "mend " + "0+".repeat(56) + "1 if letter=" + i), i);
      C.due("one of 61 between", Check.rule(row, sixty + "+1"), i < 5 ? Check.fault(125, 3) : -1);
    }
    Check.book(row, TEN);
    for (int i = 5; i >= 0; i--) {
      row.force(i);
      C.due("by rule " + i, row.edition(), i);
    }
    // The sixtieth one counts.
    C.due("the sixtieth value", mended(TEN, "mend " + "0+".repeat(59) + "letter"), 9);
    C.due("the twentieth fact", mended(TEN, "mend 1 if " + "1=2 or ".repeat(18) + "letter=7"), 7);
  }

  private static void theEnd() {
    C.says(0, "or the end (behind the last byte);");
    String text = "mend 1 if not [put<=2 or 3>to]";
    // Where the fault is, if the text ends behind so many bytes; -1: there is none.
    int[] places = {0, 0, 0, 0, 4, 5, -1, -1, 7, 9, 10, 10, 10, 13, 14, 15, 15, 15, 18, 19, 20, 21, 22, 22, 24, 25, 26,
        27, 27, 29, -1};
    for (int bytes = 0; bytes <= text.length(); bytes++) {
      C.dueRule(text.substring(0, bytes), places[bytes] < 0 ? 0 : Check.fault(places[bytes], 0));
    }
    C.faultyRule("mend 1;  ^", 0);
    C.faultyRule(" ".repeat(400) + "^", 0);
  }

  private static void eachByte() {
    C.says(0, "0 a byte or WORD that can't stand there");
    for (int sign = 0; sign <= 255; sign++) {
      boolean digit = sign >= '0' && sign <= '9';
      boolean joins = sign == '+' || sign == '-' || sign == '*' || sign == '/' || sign == '%';
      boolean compares = sign == '<' || sign == '=' || sign == '>';
      C.dueRule("mend 1" + (char) sign, sign == ' ' || digit ? 0 : Check.fault(joins || sign == ';' ? 7 : 6, 0));
      int ofTest = Check.fault(joins || digit ? 13 : sign == ' ' ? 12 : 11, 0);
      C.dueRule("mend 1 if 1" + (char) sign + "1", compares ? 0 : ofTest);
      C.dueRule("mend 1 if [1=1 " + (char) sign, sign == ']' ? 0 : Check.fault(sign == ' ' || joins ? 16 : 15, 0));
      C.dueRule((char) sign + "mend 1", sign == ' ' ? 0 : Check.fault(0, 0));
    }
  }

  private static void numbersOfSigns() {
    C.says(0, "0 a byte or WORD that can't stand there");
    // A number is no sign, though it be the number of the sign's byte.
    for (int number = 0; number <= 600; number++) {
      C.faultyRule("mend 1 ^" + number + " 1", 0);
      C.faultyRule("mend 1 if 1 ^" + number + " 1", 0);
      C.faultyRule("mend 1 if " + number + " ^1=1]", 0);
    }
    C.faultyRule("mend 1 ^59 mend 1", 0);
    C.faultyRule("mend 1 if [1=1 ^93", 0);
    C.faultyBook("book 1 0 ^59 letter 1 1", 0);
  }

  private static void theFirstAlongTheText() {
    C.says(0, "FAULTS, the first along the text, 1 + 8 * its place and:");
    C.due("at 0: -2 - (1 + 8 * 0 + 0)", Check.rule(new ErrataRow(), ""), -3);
    C.due("at 5: -2 - (1 + 8 * 5 + 1)", Check.rule(new ErrataRow(), "mend 000000"), -44);
    C.due("at 400: -2 - (1 + 8 * 400 + 0)", Check.rule(new ErrataRow(), " ".repeat(400)), -3203);
    C.faultyRule("mend ^000000 x", 1);
    C.faultyRule("mend ^x 000000", 0);
    C.faultyRule("mend 1 if " + "[".repeat(10) + "^[000000", 2);
    C.faultyRule("mend 1 if [^000000=1" + "[".repeat(11), 1);
    C.faultyRule("mend " + Check.repeated("1", "+", 60) + "+^1;x", 3);
    C.faultyRule("mend " + Check.repeated("1", "+", 60) + " ^x +1", 0);
    C.faultyRule(Check.repeated("mend 1", ";", 12) + ";^mend x", 4);
    C.faultyRule(Check.repeated("mend 1", ";", 11) + ";mend ^x;mend 1", 0);
  }

  private static void theLeastOfOnePlace() {
    C.says(0, "Of one place the least.");
    String sixty = "mend " + Check.repeated("1", "+", 60);
    C.faultyRule(sixty + "+^", 0);
    C.faultyRule(sixty + "+^x", 0);
    C.faultyRule(sixty + "+^mend", 0);
    C.faultyRule(sixty + "+^000000", 1);
    String of59 = "mend " + Check.repeated("1", "+", 59);
    C.faultyRule(of59 + " if 1^", 0);
    C.faultyRule(of59 + " if 1 ^x 1", 0);
    C.faultyRule(of59 + " if 1 ^000000", 0);
    String twelve = Check.repeated("mend 1", ";", 12);
    C.faultyRule(twelve + ";^", 0);
    C.faultyRule(twelve + ";^x", 0);
    C.faultyRule(twelve + ";^mends", 0);
    C.faultyRule(twelve + ";^000000", 0);
    // Too deep, and one too many only behind that.
    C.faultyRule(of59 + "+1 if " + "[".repeat(10) + "^[1=1", 2);
  }

  private static void aRule() {
    C.says(5, "The TAPE, which is empty then, is a RULE: its number;");
    ErrataRow row = Twins.rich();
    C.due("rules", row.count(3), 3);
    Check.tape(row, "mend 1 if letter = 4");
    C.due("rule()", row.rule(), 3);
    C.due("bytes", row.count(13), 0);
    C.due("rules", row.count(3), 4);
    C.due("it is not in force", row.count(4), 1);
    C.due("an empty tape is no rule", row.rule(), Check.fault(0, 0));
    C.due("nor a book", row.book(), Check.fault(0, 0));
    C.due("rules", row.count(3), 4);
    // A rule can be told without a book, and is no act.
    row = new ErrataRow();
    C.due("rule() without a book", Check.rule(row, "mend 1"), 0);
    C.due("acts", row.count(11), 0);
  }

  private static void aFaultyRule() {
    C.says(5, "-2 - its FAULT;");
    String[] texts = {"", "mend", "mend 000000", "mend 1 if " + "[".repeat(11), "mend " + Check.repeated("1", "+", 61),
        Check.repeated("mend 1", ";", 13), " ".repeat(400)};
    for (String text : texts) {
      Twins.same(C, "a faulty rule \"" + text + "\"", Twins::richWithoutTape, () -> {
        ErrataRow row = Twins.rich();
        C.isTrue("it is faulty", Check.rule(row, text) <= -3);
        C.due("its tape is empty", row.count(13), 0);
        return row;
      });
    }
    // A rule behind a faulty one is as if there had been none.
    ErrataRow row = Check.row(TEN);
    Check.rule(row, "mend letter;mend 5 if 1=1;mend x");
    C.due("rule()", Check.rule(row, "mend 1 if letter = 5"), 0);
    row.force(0);
    C.due("edition", row.edition(), 5);
  }

  private static ErrataRow withSixRules(String tape) {
    ErrataRow row = Twins.rich();
    for (int i = 3; i <= 5; i++) {
      Check.rule(row, "mend letter");
    }
    Check.tape(row, tape);
    return row;
  }

  private static void aSeventhRule() {
    C.says(5, "NONE, and nothing happens: there are 6.");
    String[] tapes = {"book 3 77;letter 4 5;letter 6 6;habit 4 1", "mend 1", "mend", ""};
    for (String tape : tapes) {
      Twins.nothingHappens(C, "a seventh rule \"" + tape + "\"", () -> withSixRules(tape), ErrataRow::rule, -1);
    }
    C.due("six rules", withSixRules("").count(3), 6);
  }

  private static void force() {
    C.says(6, "A RULE is IN FORCE (NONE: none): which was; -2, and nothing happens, if there is none such.");
    ErrataRow row = withSixRules("");
    int was = 1;
    int[] forced = {0, 5, 5, -1, -1, 3};
    for (int rule : forced) {
      C.due("force(" + rule + ")", row.force(rule), was);
      C.due("in force", row.count(4), rule);
      was = rule;
    }
    C.due("it is no act", row.count(11), 5);
    int[] wrong = {3, 4, 6, Integer.MAX_VALUE, -2, -3, Integer.MIN_VALUE};
    for (int rule : wrong) {
      Twins.nothingHappens(C, "force(" + rule + ") of 3 rules", Twins::rich, r -> r.force(rule), -2);
    }
    Twins.nothingHappens(C, "force(6) of 6 rules", () -> withSixRules(""), r -> r.force(6), -2);
    Twins.nothingHappens(C, "force(0) of no rules", ErrataRow::new, r -> r.force(0), -2);
    Twins.nothingHappens(C, "force(-2) of no rules", ErrataRow::new, r -> r.force(-2), -2);
    Twins.nothingHappens(C, "force(NONE), when none is", ErrataRow::new, r -> r.force(-1), -1);
    C.due("force(2) of 3 rules", Twins.rich().force(2), 1);
    // Without a book, too; and a book changes nothing in it.
    row = new ErrataRow();
    Check.rule(row, "mend letter");
    C.due("force(0) without a book", row.force(0), -1);
    Check.book(row, TEN);
    C.due("edition by it", row.edition(), 9);
  }
}
