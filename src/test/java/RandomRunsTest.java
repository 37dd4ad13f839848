import java.lang.reflect.Method;
import java.nio.charset.StandardCharsets;
import java.util.ArrayList;
import java.util.Arrays;
import java.util.List;
import java.util.Random;

/** Random runs of calls, answered by ErrataRow and by PlainRow, must be answered alike (all promises). */
public final class RandomRunsTest {
  private static final String[] WORDS = {"letter", "put", "meant", "over", "loose", "wrong", "paid",
      "purse", "owed", "from", "to", "edition"};
  private static final String[] SIGNS = {"<", "<=", "=", ">=", ">"};

  /** A call: its name, how often it comes, and the least and most that its numbers mostly are. */
  record Call(String name, int weight, int... bounds) { }

  private static final List<Call> CALLS = List.of(
      new Call("edition", 30), new Call("set", 10, 0, 9, 0, 7), new Call("mend", 6, 0, 9),
      new Call("hang", 8, 0, 9, 0, 9), new Call("fill", 5, 1, 99), new Call("undo", 10),
      new Call("letter", 8, 0, 9, 0, 3), new Call("habit", 4, 0, 11, 0, 1),
      new Call("force", 8, -1, 5), new Call("ahead", 8, 0, 9, 0, 100, 0, 3), new Call("allRight", 4),
      new Call("firstRight", 4, 0, 9), new Call("unpaid", 4, 0, 1), new Call("row", 3, 1, 3, 0, 4),
      new Call("rings", 5), new Call("twice", 5, 0, 2), new Call("apart", 8, 0, 9, 0, 9, 1, 10),
      new Call("one", 3, 1, 12, 0, 2), new Call("leftOff", 4, 1, 40, 0, 1), new Call("leastPurse", 1, 1, 40),
      new Call("putAs", 4, 0, 9), new Call("rests", 3, 0, 9, 0, 9, 1, 20, 0, 2), new Call("ring", 4, 0, 1),
      new Call("pence", 8, 0, 9999, 0, 9), new Call("note", 6, 0, 60, 0, 9, 0, 7),
      new Call("ruled", 4, 0, 1), new Call("look", 4, 0, 60, 0, 1), new Call("seed", 3, 0, Integer.MAX_VALUE),
      new Call("slips", 3, 1, 10, 1, 60, 0, 100, 0, 1), new Call("count", 10, 0, 13),
      new Call("image", 4, 0, 3), new Call("back", 3, 0, 3), new Call("end", 2, 0, 400),
      new Call("book", 1), new Call("rule", 1), new Call("noteTrue", 10));

  private final Random random;
  private final Check check;
  private final List<String> told = new ArrayList<>();
  private ErrataRow row;
  private PlainRow plain;
  private boolean same = true;

  private RandomRunsTest(long seed, Check check) {
    this.random = new Random(seed);
    this.check = check;
  }

  public static void main(String[] args) throws ReflectiveOperationException {
    int runs = args.length > 0 ? Integer.parseInt(args[0]) : 400;
    int first = args.length > 1 ? Integer.parseInt(args[1]) : 1;
    Check check = new Check();
    for (int seed = first; seed < first + runs; seed++) {
      RandomRunsTest run = new RandomRunsTest(seed, check);
      run.go();
      if (!run.same) {
        System.out.println("seed " + seed + ", the run:");
        run.told.forEach(System.out::println);
        break;
      }
    }
    check.close();
  }

  private int ask(String name, int... numbers) throws ReflectiveOperationException {
    Class<?>[] types = new Class<?>[numbers.length];
    Arrays.fill(types, int.class);
    Object[] boxed = Arrays.stream(numbers).boxed().toArray();
    Method ofRow = ErrataRow.class.getMethod(name, types);
    Method ofPlain = PlainRow.class.getDeclaredMethod(name, types);
    int want = (Integer) ofPlain.invoke(plain, boxed);
    int got = (Integer) ofRow.invoke(row, boxed);
    String call = name + Arrays.toString(numbers);
    told.add(call + " -> " + want);
    check.due(call, got, want);
    same &= got == want;
    return want;
  }

  private void go() throws ReflectiveOperationException {
    row = new ErrataRow();
    plain = new PlainRow();
    int total = CALLS.stream().mapToInt(Call::weight).sum();
    for (int i = 0; i < 100 && same; i++) {
      int kind = random.nextInt(100);
      if (kind < 3 || i == 0 && kind < 90) {
        tell(bookText(), "book");
      } else if (kind < 8 || i < 3 && kind < 60) {
        tell(ruleText(), "rule");
      } else {
        int at = random.nextInt(total);
        int which = 0;
        while (at >= CALLS.get(which).weight) {
          at -= CALLS.get(which).weight;
          which++;
        }
        makeCall(CALLS.get(which));
      }
      for (int what = 0; what <= 13 && same; what++) {
        ask("count", what);
      }
    }
  }

  private void makeCall(Call call) throws ReflectiveOperationException {
    if (call.name.equals("noteTrue")) {
      noteTrue();
      return;
    }
    int[] numbers = new int[call.bounds.length / 2];
    for (int i = 0; i < numbers.length; i++) {
      int least = call.bounds[2 * i];
      int most = call.bounds[2 * i + 1];
      int kind = random.nextInt(30);
      if (kind == 0) {
        numbers[i] = least - 1;
      } else if (kind == 1) {
        numbers[i] = most + 1;
      } else if (kind == 2) {
        numbers[i] = random.nextInt();
      } else if (kind == 3) {
        numbers[i] = most;
      } else {
        numbers[i] = least + (most == Integer.MAX_VALUE ? random.nextInt(most) : random.nextInt(most - least + 1));
      }
    }
    ask(call.name, numbers);
  }

  /** A note that some rule makes true, so that there is something to part the rules by. */
  private void noteTrue() throws ReflectiveOperationException {
    int letters = plain.count(2);
    if (letters == 0) {
      return;
    }
    int n = random.nextInt(61);
    int letter = random.nextInt(letters);
    int rule = random.nextInt(plain.count(3) + 1) - 1;
    ask("note", n, letter, plain.putBehind(n, letter, rule));
  }

  // ---- texts

  private void tell(String text, String as) throws ReflectiveOperationException {
    if (random.nextInt(6) == 0) {
      text = spoilt(text);
    }
    byte[] bytes = text.getBytes(StandardCharsets.ISO_8859_1);
    if (random.nextInt(10) > 0) {
      ask("end", 0);
    }
    told.add("text: " + text);
    for (int at = 0; at < bytes.length && same; at += 20) {
      ask("feed", Check.word(bytes, at), Check.word(bytes, at + 4), Check.word(bytes, at + 8),
          Check.word(bytes, at + 12), Check.word(bytes, at + 16));
    }
    ask("end", bytes.length);
    ask(as);
  }

  private String spoilt(String text) {
    String signs = " ;abcdefghijklmnopqrstuvwxyz0123456789<=>+-*/%[]AZ{\n\0\u00e9\u00ff_";
    StringBuilder out = new StringBuilder(text);
    int times = 1 + random.nextInt(2);
    for (int i = 0; i < times; i++) {
      int at = random.nextInt(out.length() + 1);
      char sign = signs.charAt(random.nextInt(signs.length()));
      int kind = random.nextInt(4);
      if (kind == 0) {
        out.insert(at, sign);
      } else if (kind == 1 && at < out.length()) {
        out.deleteCharAt(at);
      } else if (kind == 2 && at < out.length()) {
        out.setCharAt(at, sign);
      } else {
        out.setLength(at);
      }
    }
    return out.length() > 400 ? out.substring(0, 400) : out.toString();
  }

  private String blanks(boolean needed) {
    int kind = random.nextInt(8);
    return kind == 0 ? "  " : kind == 1 && !needed ? "" : needed || kind < 4 ? " " : "";
  }

  private int under(int most) {
    return random.nextInt(most);
  }

  private String clause(String word, int first, int second) {
    return blanks(false) + word + blanks(false) + first + blanks(true) + second + blanks(false);
  }

  private String bookText() {
    List<String> clauses = new ArrayList<>();
    int letters = under(12) == 0 ? 11 : under(11);
    int habits = under(3) == 0 ? 0 : under(30) == 0 ? 13 : under(13);
    int hangs = under(3) == 0 ? under(12) : under(4);
    int few = 2 + under(7);
    clauses.add(clause("book", under(20) == 0 ? under(11) : 1 + under(9), under(3) == 0 ? under(1001) : under(60)));
    for (int i = 0; i < letters; i++) {
      int put = under(few);
      clauses.add(clause("letter", put, under(40) == 0 ? 8 : under(3) == 0 ? put : under(few)));
    }
    for (int i = 0; i < habits; i++) {
      clauses.add(1 + under(clauses.size()), clause("habit", under(few), under(60) == 0 ? 8 : under(few)));
    }
    for (int i = 0; i < hangs && letters > 1; i++) {
      int first = under(letters);
      int second = under(15) == 0 ? first : (first + 1 + under(letters - 1)) % letters;
      clauses.add(clause("hangs", first, second));
    }
    return short400(String.join(";", clauses));
  }

  private static String short400(String text) {
    return text.length() > 400 ? text.substring(0, 400) : text;
  }

  private String ruleText() {
    if (under(12) == 0) {
      return manyValues();
    }
    int clauses = under(25) == 0 ? 10 + under(4) : 1 + under(4);
    StringBuilder out = new StringBuilder();
    for (int i = 0; i < clauses; i++) {
      out.append(i == 0 ? "" : ";").append(blanks(false)).append("mend ").append(sum(3));
      if (clauses < 9 && under(4) > 0) {
        out.append(" if ").append(under(12) == 0 ? deep() : test(2));
      }
    }
    return short400(out.toString());
  }

  /** About as many values and facts as there may be. */
  private String manyValues() {
    int facts = under(20);
    int values = 56 + under(8) - 3 * facts;
    StringBuilder out = new StringBuilder("mend ").append(Check.repeated("7", "+", Math.max(1, values)));
    for (int i = 0; i < facts; i++) {
      out.append(i == 0 ? " if " : under(2) == 0 ? " or " : " and ").append(under(9) + "<" + under(9));
    }
    return short400(out.toString());
  }

  /** About as deep as it may be. */
  private String deep() {
    int depth = 9 + under(3);
    StringBuilder out = new StringBuilder();
    int open = 0;
    for (int i = 0; i < depth; i++) {
      if (under(2) == 0) {
        out.append("[");
        open++;
      } else {
        out.append("not ");
      }
    }
    return out.append("put>1").append(Check.repeated("]", "", open)).toString();
  }

  private String test(int depth) {
    StringBuilder out = new StringBuilder(fact(depth));
    int more = under(3);
    for (int i = 0; i < more; i++) {
      out.append(under(2) == 0 ? " or " : " and ").append(fact(depth));
    }
    return out.toString();
  }

  private String fact(int depth) {
    int kind = depth == 0 ? 9 : under(6);
    if (kind == 0) {
      return "not " + fact(depth - 1);
    }
    if (kind == 1) {
      return "[" + blanks(false) + test(depth - 1) + "]";
    }
    return sum(2) + blanks(false) + SIGNS[under(5)] + blanks(false) + sum(2);
  }

  private String sum(int most) {
    StringBuilder out = new StringBuilder(value());
    int more = under(most);
    for (int i = 0; i < more; i++) {
      out.append(blanks(false)).append("+-*/%".charAt(under(5))).append(blanks(false)).append(value());
    }
    return out.toString();
  }

  private String value() {
    if (under(3) > 0) {
      return WORDS[under(12)];
    }
    return under(20) == 0 ? "99999" : under(40) == 0 ? "000001" : String.valueOf(under(10));
  }
}
