import java.util.ArrayList;
import java.util.List;

/**
 * Two rows made alike, of which one is called once more: when nothing happened by that call, all
 * that can be seen of both is the same. Each look is at rows of its own, so that none of them
 * comes to its 512th call.
 */
final class Twins {
  interface Maker {
    ErrataRow make();
  }

  interface Call {
    int on(ErrataRow row);
  }

  private interface Look {
    void at(ErrataRow row, Seen seen);
  }

  /** What was answered, each with the call that answered it. */
  private static final class Seen {
    final List<String> calls = new ArrayList<>();
    final List<Integer> answers = new ArrayList<>();

    void add(String call, int answer) {
      calls.add(call);
      answers.add(answer);
    }
  }

  private static final List<Look> LOOKS = List.of(Twins::standing, Twins::asked, Twins::undone, Twins::images,
      Twins::tapeAsBook, Twins::tapeAsRule, Twins::rules);

  private Twins() { }

  /** A row with something of everything, and room for more. */
  static ErrataRow rich() {
    ErrataRow row = Check.row("book 2 40;letter 1 1;letter 2 3;letter 1 4;letter 5 5;letter 0 6;"
        + "habit 1 6;habit 0 0;habit 3 2;hangs 2 1;hangs 4 2", "mend put + 1", "mend letter if over > 0;mend 1", "mend 0");
    row.force(1);
    row.seed(12345);
    row.note(0, 0, 6);
    row.image(0);
    row.edition();
    row.fill(3);
    row.note(2, 2, 4);
    row.image(2);
    row.set(3, 7);
    row.hang(0, 3);
    row.edition();
    Check.tape(row, "book 3 77;letter 4 5;letter 6 6;habit 4 1");
    return row;
  }

  /** The same row with an empty TAPE. */
  static ErrataRow richWithoutTape() {
    ErrataRow row = rich();
    row.end(0);
    return row;
  }

  /** The call answers so, and nothing happens by it. */
  static void nothingHappens(Check check, String call, Maker maker, Call made, int want) {
    check.due(call, made.on(maker.make()), want);
    same(check, call, maker, () -> {
      ErrataRow row = maker.make();
      made.on(row);
      return row;
    });
  }

  /** Whatever the call answers, nothing happens by it. */
  static void nothingChanges(Check check, String call, Maker maker, Call made) {
    nothingHappens(check, call, maker, made, made.on(maker.make()));
  }

  /** All that can be seen of both is the same. */
  static void same(Check check, String what, Maker one, Maker other) {
    for (Look look : LOOKS) {
      Seen seen = new Seen();
      look.at(one.make(), seen);
      Seen then = new Seen();
      look.at(other.make(), then);
      for (int i = 0; i < seen.calls.size(); i++) {
        check.due(what + ", then " + seen.calls.get(i), then.answers.get(i), seen.answers.get(i));
      }
    }
  }

  private static void standing(ErrataRow row, Seen seen) {
    for (int what = 0; what <= 13; what++) {
      seen.add("count(" + what + ")", row.count(what));
    }
    for (int i = 0; i < 40; i++) {
      seen.add("letter(" + i / 4 + ", " + i % 4 + ")", row.letter(i / 4, i % 4));
    }
    for (int i = 0; i < 24; i++) {
      seen.add("habit(" + i / 2 + ", " + i % 2 + ")", row.habit(i / 2, i % 2));
    }
  }

  private static void asked(ErrataRow row, Seen seen) {
    for (int i = 0; i < 10; i++) {
      seen.add("ahead(" + i + ", 3, 0)", row.ahead(i, 3, 0));
      seen.add("firstRight(" + i + ")", row.firstRight(i));
      seen.add("putAs(" + i + ")", row.putAs(i));
      seen.add("pence(1000, " + i + ")", row.pence(1000, i));
    }
    for (int what = 0; what <= 3; what++) {
      seen.add("ahead(0, 100, " + what + ")", row.ahead(0, 100, what));
      seen.add("row(2, " + what + ")", row.row(2, what));
      seen.add("one(3, " + what + ")", row.one(3, what));
      seen.add("rests(0, 1, 3, " + what + ")", row.rests(0, 1, 3, what));
      seen.add("twice(" + what + ")", row.twice(what));
      seen.add("unpaid(" + what + ")", row.unpaid(what));
      seen.add("leftOff(4, " + what + ")", row.leftOff(4, what));
      seen.add("ring(" + what + ")", row.ring(what));
      seen.add("ruled(" + what + ")", row.ruled(what));
      seen.add("look(1, " + what + ")", row.look(1, what));
      seen.add("slips(2, 5, 50, " + what + ")", row.slips(2, 5, 50, what));
    }
    seen.add("allRight()", row.allRight());
    seen.add("rings()", row.rings());
    seen.add("apart(0, 1, 3)", row.apart(0, 1, 3));
    seen.add("leastPurse(9)", row.leastPurse(9));
  }

  private static void undone(ErrataRow row, Seen seen) {
    for (int i = 1; i <= 21; i++) {
      seen.add("undo() " + i, row.undo());
      for (int letter = 0; letter < 10; letter++) {
        seen.add("put of " + letter + " behind undo() " + i, row.letter(letter, 0));
      }
      seen.add("edition behind undo() " + i, row.count(5));
      seen.add("loose behind undo() " + i, row.count(7));
      seen.add("purse behind undo() " + i, row.count(8));
      seen.add("owed behind undo() " + i, row.count(9));
    }
    standing(row, seen);
  }

  private static void images(ErrataRow row, Seen seen) {
    for (int k = 0; k <= 3; k++) {
      seen.add("back(" + k + ")", row.back(k));
      standing(row, seen);
      seen.add("ruled(0) of image " + k, row.ruled(0));
      seen.add("putAs(0) of image " + k, row.putAs(0));
    }
  }

  private static void tapeAsBook(ErrataRow row, Seen seen) {
    seen.add("book()", row.book());
    standing(row, seen);
  }

  private static void tapeAsRule(ErrataRow row, Seen seen) {
    int rule = row.rule();
    seen.add("rule()", rule);
    seen.add("force of it", row.force(rule));
    editions(row, seen);
  }

  private static void rules(ErrataRow row, Seen seen) {
    editions(row, seen);
    for (int rule = -1; rule < 6; rule++) {
      seen.add("force(" + rule + ")", row.force(rule));
      editions(row, seen);
    }
  }

  private static void editions(ErrataRow row, Seen seen) {
    for (int i = 1; i <= 4; i++) {
      seen.add("edition() " + i, row.edition());
      seen.add("wrong behind it", row.count(6));
      seen.add("purse behind it", row.count(8));
    }
  }
}
