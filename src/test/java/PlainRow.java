import java.util.ArrayDeque;
import java.util.ArrayList;
import java.util.Arrays;
import java.util.Deque;
import java.util.HashMap;
import java.util.HashSet;
import java.util.List;
import java.util.Map;
import java.util.Set;
import java.util.function.IntPredicate;

/**
 * The document once more, as plainly as it can be told and with the whole Java library, written
 * apart from ErrataRow: random runs are answered by both and must be answered alike.
 */
final class PlainRow {
  static final int NONE = -1;

  // ---------------------------------------------------------------- what is told

  record Habit(int from, int to) { }

  record Book(int quarter, List<Integer> meant, List<Habit> habits, State begin) {
    int letters() {
      return meant.size();
    }

    int round() {
      return habits.isEmpty() ? 1 : habits.size();
    }

    Habit habitOf(int edition) {
      return habits.isEmpty() ? new Habit(0, 0) : habits.get(edition % habits.size());
    }
  }

  record Note(int n, int letter, int put) { }

  static final class State {
    List<Integer> put = new ArrayList<>();
    List<Integer> paid = new ArrayList<>();
    List<Set<Integer>> hangs = new ArrayList<>();
    int purse;
    int owed;
    int edition;

    State copy() {
      State s = new State();
      s.put = new ArrayList<>(put);
      s.paid = new ArrayList<>(paid);
      for (Set<Integer> on : hangs) {
        s.hangs.add(new HashSet<>(on));
      }
      s.purse = purse;
      s.owed = owed;
      s.edition = edition;
      return s;
    }
  }

  interface Sum {
    long of(Map<String, Long> words);
  }

  interface Test {
    boolean of(Map<String, Long> words);
  }

  record Clause(Sum sum, Test test) { }

  record World(Book book, State now, List<Note> notes, int force, int x) {
    World copy() {
      return new World(book, now == null ? null : now.copy(), new ArrayList<>(notes), force, x);
    }
  }

  private final StringBuilder tape = new StringBuilder();
  private final List<List<Clause>> rules = new ArrayList<>();
  private Book book;
  private State now;
  private List<Note> notes = new ArrayList<>();
  private int force = NONE;
  private int x;
  private final Deque<State> acts = new ArrayDeque<>();
  private final World[] images = new World[4];

  // ---------------------------------------------------------------- reading

  static final class Fault extends RuntimeException {
    private static final long serialVersionUID = 1L;
    final int number;

    Fault(int place, int kind) {
      super("fault");
      number = 1 + 8 * place + kind;
    }
  }

  /** Reads straight from the text, byte by byte. */
  static final class Text {
    private static final Set<String> VALUE_WORDS = Set.of("letter", "put", "meant", "over", "loose",
        "wrong", "paid", "purse", "owed", "from", "to", "edition");
    final String s;
    int at;
    int used;

    Text(String s) {
      this.s = s;
    }

    char look() {
      while (at < s.length() && s.charAt(at) == ' ') {
        at++;
      }
      return at < s.length() ? s.charAt(at) : '\uffff';
    }

    boolean atEnd() {
      return look() == '\uffff';
    }

    String lookRun(IntPredicate p) {
      look();
      int to = at;
      while (to < s.length() && p.test(s.charAt(to))) {
        to++;
      }
      return s.substring(at, to);
    }

    String lookWord() {
      return lookRun(c -> c >= 'a' && c <= 'z');
    }

    String lookDigits() {
      return lookRun(c -> c >= '0' && c <= '9');
    }

    boolean take(String sign) {
      look();
      if (s.startsWith(sign, at)) {
        at += sign.length();
        return true;
      }
      return false;
    }

    boolean takeWord(String word) {
      if (lookWord().equals(word)) {
        at += word.length();
        return true;
      }
      return false;
    }

    Fault strange() {
      look();
      return new Fault(at, 0);
    }

    int number(int least, int most, int except) {
      String digits = lookDigits();
      if (digits.isEmpty()) {
        throw strange();
      }
      if (digits.length() > 5) {
        throw new Fault(at, 1);
      }
      int n = Integer.parseInt(digits);
      if (n < least || n > most || n == except) {
        throw new Fault(at, 1);
      }
      at += digits.length();
      return n;
    }

    Book book() {
      int clauses = 0;
      int quarter = 0;
      State begin = new State();
      List<Integer> meant = new ArrayList<>();
      List<Habit> habits = new ArrayList<>();
      while (true) {
        String word = lookWord();
        if (!Set.of("book", "letter", "habit", "hangs").contains(word)) {
          throw strange();
        }
        if (clauses == 40 || clauses == 0 && !word.equals("book") || clauses > 0 && word.equals("book")
            || word.equals("letter") && meant.size() == 10 || word.equals("habit") && habits.size() == 12) {
          throw new Fault(at, 4);
        }
        takeWord(word);
        if (word.equals("book")) {
          quarter = number(1, 9, NONE);
          begin.purse = number(0, 999, NONE);
        } else if (word.equals("letter")) {
          begin.put.add(number(0, 7, NONE));
          meant.add(number(0, 7, NONE));
          begin.paid.add(0);
          begin.hangs.add(new HashSet<>());
        } else if (word.equals("habit")) {
          int from = number(0, 7, NONE);
          habits.add(new Habit(from, number(0, 7, NONE)));
        } else {
          int first = number(0, meant.size() - 1, NONE);
          begin.hangs.get(first).add(number(0, meant.size() - 1, first));
        }
        clauses++;
        if (atEnd()) {
          return new Book(quarter, meant, habits, begin);
        }
        if (!take(";")) {
          throw strange();
        }
      }
    }

    List<Clause> rule() {
      List<Clause> clauses = new ArrayList<>();
      while (true) {
        if (!lookWord().equals("mend")) {
          throw strange();
        }
        if (clauses.size() == 12) {
          throw new Fault(at, 4);
        }
        takeWord("mend");
        Sum sum = sum();
        clauses.add(new Clause(sum, takeWord("if") ? test(0) : null));
        if (atEnd()) {
          return clauses;
        }
        if (!take(";")) {
          throw strange();
        }
      }
    }

    Test test(int deep) {
      Test left = part(deep);
      while (takeWord("or")) {
        Test a = left;
        Test b = part(deep);
        left = w -> a.of(w) || b.of(w);
      }
      return left;
    }

    Test part(int deep) {
      Test left = fact(deep);
      while (takeWord("and")) {
        Test a = left;
        Test b = fact(deep);
        left = w -> a.of(w) && b.of(w);
      }
      return left;
    }

    Test fact(int deep) {
      boolean isNot = lookWord().equals("not");
      if (isNot || look() == '[') {
        if (deep == 10) {
          throw new Fault(at, 2);
        }
        if (isNot) {
          takeWord("not");
          Test inner = fact(deep + 1);
          return w -> !inner.of(w);
        }
        take("[");
        Test inner = test(deep + 1);
        if (!take("]")) {
          throw strange();
        }
        return inner;
      }
      Sum left = sum();
      look();
      int place = at;
      for (String sign : List.of("<=", ">=", "<", ">", "=")) {
        if (take(sign)) {
          use(place);
          Sum right = sum();
          return w -> holds(left.of(w), sign, right.of(w));
        }
      }
      throw strange();
    }

    static boolean holds(long a, String sign, long b) {
      int c = Long.compare(a, b);
      return sign.contains("=") && c == 0 || sign.contains("<") && c < 0 || sign.contains(">") && c > 0;
    }

    void use(int place) {
      if (used == 60) {
        throw new Fault(place, 3);
      }
      used++;
    }

    Sum sum() {
      Sum left = term();
      while (look() == '+' || look() == '-') {
        boolean plus = s.charAt(at++) == '+';
        Sum a = left;
        Sum b = term();
        left = w -> plus ? a.of(w) + b.of(w) : a.of(w) - b.of(w);
      }
      return left;
    }

    Sum term() {
      Sum left = value();
      while (look() == '*' || look() == '/' || look() == '%') {
        char sign = s.charAt(at++);
        Sum a = left;
        Sum b = value();
        left = w -> joined(a.of(w), sign, b.of(w));
      }
      return left;
    }

    static long joined(long a, char sign, long b) {
      if (sign == '*') {
        return a * b;
      }
      if (b == 0) {
        return 0;
      }
      return sign == '/' ? a / b : a % b;
    }

    Sum value() {
      String digits = lookDigits();
      if (!digits.isEmpty()) {
        if (digits.length() > 5) {
          throw new Fault(at, 1);
        }
        use(at);
        at += digits.length();
        long n = Long.parseLong(digits);
        return w -> n;
      }
      String word = lookWord();
      if (!VALUE_WORDS.contains(word)) {
        throw strange();
      }
      use(at);
      at += word.length();
      return w -> w.get(word);
    }
  }

  // ---------------------------------------------------------------- editions

  Set<Integer> wrong(State s) {
    Set<Integer> out = new HashSet<>();
    for (int i = 0; i < s.put.size(); i++) {
      if (!s.put.get(i).equals(book.meant.get(i))) {
        out.add(i);
      }
    }
    return out;
  }

  Set<Integer> loose(State s) {
    Set<Integer> wrong = wrong(s);
    Set<Integer> out = new HashSet<>();
    for (int i : wrong) {
      Set<Integer> both = new HashSet<>(s.hangs.get(i));
      both.retainAll(wrong);
      if (both.isEmpty()) {
        out.add(i);
      }
    }
    return out;
  }

  static int bits(Set<Integer> set) {
    int out = 0;
    for (int i : set) {
      out += 1 << i;
    }
    return out;
  }

  /** What one edition did. */
  record Done(State state, int mended, Set<Integer> paid, Set<Integer> unpaid) { }

  int choice(State s, int rule) {
    Set<Integer> loose = loose(s);
    int best = NONE;
    long most = 0;
    for (int i = 0; i < s.put.size(); i++) {
      if (loose.contains(i)) {
        if (rule == NONE) {
          return i;
        }
        long score = score(s, i, rules.get(rule));
        if (score > most) {
          most = score;
          best = i;
        }
      }
    }
    return best;
  }

  long score(State s, int letter, List<Clause> rule) {
    Map<String, Long> w = new HashMap<>();
    w.put("letter", (long) letter);
    w.put("put", (long) s.put.get(letter));
    w.put("meant", (long) book.meant.get(letter));
    w.put("over", wrong(s).stream().filter(i -> s.hangs.get(i).contains(letter)).count());
    w.put("loose", (long) loose(s).size());
    w.put("wrong", (long) wrong(s).size());
    w.put("paid", (long) s.paid.get(letter));
    w.put("purse", (long) s.purse);
    w.put("owed", (long) s.owed);
    w.put("from", (long) book.habitOf(s.edition).from);
    w.put("to", (long) book.habitOf(s.edition).to);
    w.put("edition", (long) s.edition);
    for (Clause c : rule) {
      if (c.test == null || c.test.of(w)) {
        return c.sum.of(w);
      }
    }
    return 0;
  }

  Done print(State before, int mended, int leftOff) {
    State s = before.copy();
    if (mended != NONE) {
      s.put.set(mended, book.meant.get(mended));
    }
    Habit habit = book.habitOf(s.edition);
    if (leftOff == NONE || s.edition % book.round() != leftOff) {
      for (int i = 0; i < s.put.size(); i++) {
        if (i != mended && s.put.get(i) == habit.from) {
          s.put.set(i, habit.to);
          break;
        }
      }
    }
    Set<Integer> paid = new HashSet<>();
    Set<Integer> unpaid = new HashSet<>();
    for (int i = 0; i < s.put.size(); i++) {
      if (wrong(s).contains(i)) {
        if (s.purse >= book.quarter) {
          s.purse -= book.quarter;
          s.paid.set(i, Math.min(999, s.paid.get(i) + 1));
          paid.add(i);
        } else {
          s.owed = Math.min(999, s.owed + 1);
          unpaid.add(i);
        }
      }
    }
    s.edition++;
    return new Done(s, mended, paid, unpaid);
  }

  Done next(State s, int rule) {
    return print(s, choice(s, rule), NONE);
  }

  /** All that comes of n editions, the first behind the first. */
  List<Done> course(State s, int n, int rule) {
    List<Done> out = new ArrayList<>();
    for (int i = 0; i < n; i++) {
      Done done = next(s, rule);
      out.add(done);
      s = done.state;
    }
    return out;
  }

  State after(State s, int n, int rule) {
    for (int i = 0; i < n; i++) {
      s = next(s, rule).state;
    }
    return s;
  }

  /** How it is when edition n, counted from edition 0 on, has been printed. */
  State behind(State begin, int n, int rule) {
    return course(begin, n + 1, rule).get(n).state;
  }

  /** As what a letter is put behind the n-th edition of all: for the tests alone. */
  int putBehind(int n, int letter, int rule) {
    return behind(book.begin, n, rule).put.get(letter);
  }

  // ---------------------------------------------------------------- the face

  int feed(int a, int b, int c, int d, int e) {
    if (tape.length() > 380) {
      return NONE;
    }
    for (int n : new int[] {a, b, c, d, e}) {
      tape.append((char) (n >> 24 & 255)).append((char) (n >> 16 & 255));
      tape.append((char) (n >> 8 & 255)).append((char) (n & 255));
    }
    return tape.length();
  }

  int end(int n) {
    if (n < 0 || n > tape.length()) {
      return NONE;
    }
    tape.setLength(n);
    return n;
  }

  private String takeTape() {
    String text = tape.toString();
    tape.setLength(0);
    return text;
  }

  int book() {
    try {
      book = new Text(takeTape()).book();
    } catch (Fault f) {
      return -2 - f.number;
    }
    now = book.begin.copy();
    notes.clear();
    acts.clear();
    return book.letters();
  }

  int rule() {
    if (rules.size() == 6) {
      return NONE;
    }
    try {
      rules.add(new Text(takeTape()).rule());
    } catch (Fault f) {
      return -2 - f.number;
    }
    return rules.size() - 1;
  }

  int force(int rule) {
    if (rule < -1 || rule >= rules.size()) {
      return -2;
    }
    int was = force;
    force = rule;
    return was;
  }

  boolean has(int letter) {
    return book != null && letter >= 0 && letter < book.letters();
  }

  int letter(int letter, int what) {
    if (!has(letter) || what < 0 || what > 3) {
      return NONE;
    }
    return List.of(now.put.get(letter), book.meant.get(letter), now.paid.get(letter),
        bits(now.hangs.get(letter))).get(what);
  }

  int habit(int edition, int what) {
    if (book == null || edition < 0 || edition >= book.round() || what < 0 || what > 1) {
      return NONE;
    }
    Habit habit = book.habitOf(edition);
    return what == 0 ? habit.from : habit.to;
  }

  private void act(State then) {
    acts.addLast(now);
    if (acts.size() > 20) {
      acts.removeFirst();
    }
    now = then;
  }

  int edition() {
    if (book == null || now.edition == 999) {
      return NONE;
    }
    Done done = next(now, force);
    act(done.state);
    return done.mended == NONE ? -2 : done.mended;
  }

  int set(int letter, int put) {
    if (!has(letter) || put < 0 || put > 7 || now.put.get(letter) == put) {
      return NONE;
    }
    State s = now.copy();
    int was = s.put.set(letter, put);
    act(s);
    return was;
  }

  int mend(int letter) {
    if (!has(letter) || !loose(now).contains(letter)) {
      return NONE;
    }
    State s = now.copy();
    s.put.set(letter, book.meant.get(letter));
    act(s);
    return wrong(now).size();
  }

  int hang(int letter, int other) {
    if (!has(letter) || !has(other) || letter == other) {
      return NONE;
    }
    State s = now.copy();
    boolean added = s.hangs.get(letter).add(other);
    if (!added) {
      s.hangs.get(letter).remove(other);
    }
    act(s);
    return added ? 1 : 0;
  }

  int fill(int much) {
    if (book == null || much < 1 || much > 99) {
      return NONE;
    }
    State s = now.copy();
    s.purse = Math.min(999, s.purse + much);
    act(s);
    return now.purse;
  }

  int undo() {
    if (acts.isEmpty()) {
      return NONE;
    }
    now = acts.removeLast();
    return acts.size();
  }

  int ahead(int letter, int n, int what) {
    if (book == null || n < 0 || n > 100 || what < 0 || what > 3 || what == 0 && !has(letter)) {
      return NONE;
    }
    State s = after(now, n, force);
    if (what == 0) {
      return s.put.get(letter);
    }
    return what == 1 ? bits(wrong(s)) : what == 2 ? s.purse : s.owed;
  }

  int allRight() {
    if (book == null) {
      return NONE;
    }
    List<Done> course = course(now, 200, force);
    for (int i = 0; i < 200; i++) {
      if (wrong(course.get(i).state).isEmpty()) {
        return now.edition + i;
      }
    }
    return -2;
  }

  int firstRight(int letter) {
    if (!has(letter)) {
      return NONE;
    }
    List<Done> course = course(now, 200, force);
    for (int i = 0; i < 200; i++) {
      if (!wrong(course.get(i).state).contains(letter)) {
        return now.edition + i;
      }
    }
    return -2;
  }

  int unpaid(int what) {
    if (book == null || what < 0 || what > 1) {
      return NONE;
    }
    List<Done> course = course(now, 200, force);
    for (int i = 0; i < 200; i++) {
      Set<Integer> unpaid = course.get(i).unpaid;
      if (!unpaid.isEmpty()) {
        return what == 0 ? now.edition + i : unpaid.stream().min(Integer::compare).get();
      }
    }
    return -2;
  }

  int row(int n, int what) {
    if (book == null || n < 1 || n > 4 || what < 0 || what > 4) {
      return -3;
    }
    if (what > n) {
      return -2;
    }
    int base = book.letters() + 1;
    int rows = (int) Math.pow(base, n);
    int fewest = 99;
    int[] best = null;
    for (int k = 0; k < rows; k++) {
      int[] row = new int[n];
      int rest = k;
      for (int i = n - 1; i >= 0; i--) {
        row[i] = rest % base - 1;
        rest /= base;
      }
      int many = wrongByRow(row);
      if (many < fewest) {
        fewest = many;
        best = row;
      }
    }
    return what == 0 ? fewest : best[what - 1];
  }

  private int wrongByRow(int[] row) {
    State s = now;
    for (int mended : row) {
      if (mended != NONE && !loose(s).contains(mended)) {
        return 100;
      }
      s = print(s, mended, NONE).state;
    }
    return wrong(s).size();
  }

  int rings() {
    if (book == null) {
      return NONE;
    }
    int n = book.letters();
    Set<Integer> wrong = wrong(now);
    boolean[][] reach = new boolean[n][n];
    for (int i : wrong) {
      for (int j : wrong) {
        reach[i][j] = now.hangs.get(i).contains(j);
      }
    }
    for (int k = 0; k < n; k++) {
      for (int i = 0; i < n; i++) {
        for (int j = 0; j < n; j++) {
          reach[i][j] |= reach[i][k] && reach[k][j];
        }
      }
    }
    int out = 0;
    for (int i = 0; i < n; i++) {
      out += reach[i][i] ? 1 << i : 0;
    }
    return out;
  }

  int twice(int what) {
    if (book == null || what < 0 || what > 2) {
      return NONE;
    }
    int[] best = {0, -2, -2};
    for (int a = 0; a < now.put.size(); a++) {
      for (int b = a + 1; b < now.put.size(); b++) {
        int length = 0;
        while (b + length < now.put.size() && now.put.get(a + length).equals(now.put.get(b + length))) {
          length++;
        }
        if (length > best[0]) {
          best = new int[] {length, a, b};
        }
      }
    }
    return best[what];
  }

  int apart(int one, int other, int length) {
    if (length < 1 || length > 10 || !has(one) || !has(other) || !has(one + length - 1)
        || !has(other + length - 1)) {
      return NONE;
    }
    return distance(now.put.subList(one, one + length), now.put.subList(other, other + length),
        new HashMap<>());
  }

  private static int distance(List<Integer> a, List<Integer> b, Map<List<List<Integer>>, Integer> known) {
    if (a.isEmpty() || b.isEmpty()) {
      return a.size() + b.size();
    }
    List<List<Integer>> key = List.of(List.copyOf(a), List.copyOf(b));
    Integer old = known.get(key);
    if (old != null) {
      return old;
    }
    List<Integer> a1 = a.subList(1, a.size());
    List<Integer> b1 = b.subList(1, b.size());
    int best = Math.min(distance(a1, b, known), distance(a, b1, known)) + 1;
    best = Math.min(best, distance(a1, b1, known) + (a.get(0).equals(b.get(0)) ? 0 : 1));
    known.put(key, best);
    return best;
  }

  int one(int n, int what) {
    if (book == null || n < 1 || n > 40 || what < 0 || what > 2) {
      return -2;
    }
    int[] best = {wrong(after(now, n, force)).size(), NONE, NONE};
    for (int i = 0; i < book.letters(); i++) {
      for (int put = 0; put < 8; put++) {
        if (now.put.get(i) != put) {
          State s = now.copy();
          s.put.set(i, put);
          int many = wrong(after(s, n, force)).size();
          if (many < best[0]) {
            best = new int[] {many, i, put};
          }
        }
      }
    }
    return best[what];
  }

  int leftOff(int n, int what) {
    if (book == null || n < 1 || n > 40 || what < 0 || what > 1) {
      return -2;
    }
    int[] best = {NONE, 99};
    for (int h = NONE; h < book.habits.size(); h++) {
      State s = now;
      for (int i = 0; i < n; i++) {
        s = print(s, choice(s, force), h).state;
      }
      if (wrong(s).size() < best[1]) {
        best = new int[] {h, wrong(s).size()};
      }
    }
    return best[what];
  }

  int leastPurse(int n) {
    if (book == null || n < 1 || n > 40) {
      return NONE;
    }
    for (int purse = 0; purse <= 999; purse++) {
      State s = now.copy();
      s.purse = purse;
      boolean all = true;
      for (int i = 0; i < n && all; i++) {
        Done done = next(s, force);
        s = done.state;
        all = done.unpaid.isEmpty();
      }
      if (all) {
        return purse;
      }
    }
    return -2;
  }

  private boolean noted(State begin, int rule) {
    List<Done> course = course(begin, 61, rule);
    for (Note note : notes) {
      if (course.get(note.n).state.put.get(note.letter) != note.put) {
        return false;
      }
    }
    return true;
  }

  int putAs(int letter) {
    if (!has(letter)) {
      return NONE;
    }
    int out = 0;
    for (int put = 0; put < 8; put++) {
      State s = book.begin.copy();
      s.put.set(letter, put);
      out += noted(s, force) ? 1 << put : 0;
    }
    return out;
  }

  int rests(int one, int other, int n, int what) {
    if (!has(one) || !has(other) || one == other || n < 1 || n > 20 || what < 0 || what > 2) {
      return NONE;
    }
    int[][][] gain = new int[8][8][2];
    for (int a = 0; a < 8; a++) {
      for (int b = 0; b < 8; b++) {
        State s = now.copy();
        s.put.set(one, a);
        s.put.set(other, b);
        for (Done done : course(s, n, force)) {
          gain[a][b][0] += (done.paid.contains(one) ? 1 : 0) - (done.unpaid.contains(one) ? 1 : 0);
          gain[a][b][1] += (done.paid.contains(other) ? 1 : 0) - (done.unpaid.contains(other) ? 1 : 0);
        }
      }
    }
    List<int[]> rests = new ArrayList<>();
    for (int a = 0; a < 8; a++) {
      for (int b = 0; b < 8; b++) {
        boolean rest = true;
        for (int k = 0; k < 8; k++) {
          rest &= gain[k][b][0] <= gain[a][b][0] && gain[a][k][1] <= gain[a][b][1];
        }
        if (rest) {
          rests.add(new int[] {a, b});
        }
      }
    }
    if (what == 0) {
      return rests.size();
    }
    return rests.isEmpty() ? -2 : rests.get(0)[what - 1];
  }

  int ring(int what) {
    if (book == null || what < 0 || what > 1) {
      return NONE;
    }
    List<State> begins = new ArrayList<>();
    begins.add(now);
    for (Done done : course(now, 60, force)) {
      begins.add(done.state);
    }
    for (int i = 0; i < 60; i++) {
      for (int j = i + 1; j <= 60; j++) {
        State a = begins.get(i);
        State b = begins.get(j);
        if (a.put.equals(b.put) && a.edition % book.round() == b.edition % book.round()) {
          return what == 0 ? a.edition : j - i;
        }
      }
    }
    return -2;
  }

  int pence(int much, int letter) {
    if (much < 0 || much > 9999 || !has(letter)) {
      return NONE;
    }
    int all = now.paid.stream().mapToInt(Integer::intValue).sum();
    if (all == 0) {
      return 0;
    }
    int[] parts = new int[book.letters()];
    List<Integer> order = new ArrayList<>();
    for (int i = 0; i < parts.length; i++) {
      parts[i] = much * now.paid.get(i) / all;
      order.add(i);
    }
    order.sort((i, j) -> much * now.paid.get(j) % all - much * now.paid.get(i) % all);
    int left = much - Arrays.stream(parts).sum();
    for (int k = 0; k < left; k++) {
      parts[order.get(k)]++;
    }
    return parts[letter];
  }

  int note(int n, int letter, int put) {
    if (n == NONE) {
      notes.clear();
      return 0;
    }
    if (n < 0 || n > 60 || !has(letter) || put < 0 || put > 7 || notes.size() == 10) {
      return -2;
    }
    notes.add(new Note(n, letter, put));
    return notes.size();
  }

  private List<Integer> fitting() {
    List<Integer> out = new ArrayList<>();
    for (int r = NONE; r < rules.size(); r++) {
      if (noted(book.begin, r)) {
        out.add(r);
      }
    }
    return out;
  }

  int ruled(int what) {
    if (book == null || what < 0 || what > 1) {
      return -3;
    }
    List<Integer> all = fitting();
    return what == 0 ? all.size() : all.isEmpty() ? -2 : all.get(0);
  }

  int look(int n, int what) {
    if (book == null || n < 0 || n > 60 || what < 0 || what > 1) {
      return NONE;
    }
    List<Integer> all = fitting();
    int[] best = {-2, -2};
    for (int i = 0; i < book.letters() && !all.isEmpty(); i++) {
      Map<Integer, Integer> alike = new HashMap<>();
      for (int r : all) {
        alike.merge(behind(book.begin, n, r).put.get(i), 1, Integer::sum);
      }
      int most = alike.values().stream().max(Integer::compare).get();
      if (best[0] == -2 || most < best[1]) {
        best = new int[] {i, most};
      }
    }
    return best[what];
  }

  int seed(int to) {
    if (to < 0) {
      return NONE;
    }
    int was = x;
    x = to;
    return was;
  }

  int slips(int m, int n, int p, int what) {
    if (book == null || m < 1 || m > 10 || n < 1 || n > 60 || p < 0 || p > 100 || what < 0 || what > 1) {
      return NONE;
    }
    long[] y = {x};
    int many = 0;
    int owed = 0;
    for (int time = 0; time < m; time++) {
      State s = now;
      for (int i = 0; i < n; i++) {
        if (draw(y) % 100 < p && book.letters() > 0) {
          s = s.copy();
          int letter = draw(y) % book.letters();
          s.put.set(letter, draw(y) % 8);
        }
        s = next(s, force).state;
      }
      many += wrong(s).size();
      owed += s.owed;
    }
    return what == 0 ? many : owed;
  }

  private static int draw(long[] y) {
    y[0] = (y[0] * 1103515245L + 12345L) % 2147483648L;
    return (int) (y[0] / 65536);
  }

  int count(int what) {
    boolean none = book == null;
    switch (what) {
      case 0: return none ? 0 : book.quarter;
      case 1: return none ? 0 : book.round();
      case 2: return none ? 0 : book.letters();
      case 3: return rules.size();
      case 4: return force;
      case 5: return none ? 0 : now.edition;
      case 6: return none ? 0 : bits(wrong(now));
      case 7: return none ? 0 : bits(loose(now));
      case 8: return none ? 0 : now.purse;
      case 9: return none ? 0 : now.owed;
      case 10: return notes.size();
      case 11: return acts.size();
      case 12: return x;
      case 13: return tape.length();
      default: return NONE;
    }
  }

  int image(int k) {
    if (k < 0 || k > 3) {
      return NONE;
    }
    images[k] = new World(book, now, notes, force, x).copy();
    return count(5);
  }

  int back(int k) {
    if (k < 0 || k > 3 || images[k] == null) {
      return NONE;
    }
    World world = images[k].copy();
    book = world.book;
    now = world.now;
    notes = world.notes;
    force = world.force;
    x = world.x;
    acts.clear();
    return count(5);
  }
}
