import java.util.Arrays;

/**
 * A book whose wrong letters are paid to live with it: told in a language, printed edition by
 * edition, mended by rules told in a language, and asked how it will go on.
 */
public final class ErrataRow {
    /** None. */
    public static final int NONE = -1;

    private static final int MOST_BYTES = 400;
    private static final int MOST_LETTERS = 10;
    private static final int MOST_HABITS = 12;
    private static final int MOST_RULES = 6;
    private static final int MOST_NOTES = 10;
    private static final int MOST_ACTS = 20;
    private static final int MOST_IMAGES = 4;
    private static final int MOST_COUNTED = 999;
    private static final int MOST_PENCE = 9999;
    private static final int MOST_NOTED = 60;
    private static final int MOST_ROW = 4;
    private static final int MOST_AHEAD = 100;
    private static final int MOST_TRIED = 40;
    private static final int MOST_RESTED = 20;
    private static final int MOST_SLIPPED = 60;
    private static final int LOOKED_AHEAD = 200;
    private static final int LOOKED_FOR_RING = 60;
    private static final int PUTS = 8;
    private static final int BITS_OF_PUT = 3;
    private static final int MOST_QUARTER = 9;

    private final int[] tape = new int[MOST_BYTES];
    private int tapeLength;
    private final Tokens tokens = new Tokens();
    private final BookReader bookReader = new BookReader(tokens);
    private final RuleReader ruleReader = new RuleReader(tokens);
    private final Rule[] rules = new Rule[MOST_RULES];
    private int ruleCount;
    private final World world = new World();
    private final World[] images = new World[MOST_IMAGES];
    private final History history = new History();
    private final Press press = new Press(world.book);
    private final RowSearch rowSearch = new RowSearch(press);
    // What is asked is tried on a copy, so that by asking nothing changes.
    private final State trial = new State();
    // The answers of one question by its 'what': they are found together.
    private final int[] found = new int[3];
    private final int[] scratch = new int[LOOKED_FOR_RING + 1];
    private final int[] gains = new int[2 * PUTS * PUTS];

    /** No book, no rules, none in force. */
    public ErrataRow() {
    }

    // ---- the tape, the book and the rules

    public int feed(int a, int b, int c, int d, int e) {
        if (tapeLength + 20 > MOST_BYTES) {
            return NONE;
        }
        putBytes(a);
        putBytes(b);
        putBytes(c);
        putBytes(d);
        putBytes(e);
        return tapeLength;
    }

    private void putBytes(int number) {
        for (int shift = 24; shift >= 0 && tapeLength < MOST_BYTES; shift -= 8) {
            tape[tapeLength] = (number >>> shift) & 255;
            tapeLength++;
        }
    }

    public int end(int n) {
        if (n < 0 || n > tapeLength) {
            return NONE;
        }
        tapeLength = n;
        return n;
    }

    public int book() {
        tokens.split(tape, tapeLength);
        tapeLength = 0;
        int fault = bookReader.readBook();
        if (fault != 0) {
            return -2 - fault;
        }
        world.open(bookReader.told);
        history.forget();
        return world.book.letters;
    }

    public int rule() {
        if (ruleCount >= MOST_RULES) {
            return NONE;
        }
        tokens.split(tape, tapeLength);
        tapeLength = 0;
        int fault = ruleReader.readRule();
        if (fault != 0) {
            return -2 - fault;
        }
        rules[ruleCount] = ruleReader.made();
        ruleCount++;
        return ruleCount - 1;
    }

    public int force(int rule) {
        if (rule < NONE || rule >= ruleCount) {
            return -2;
        }
        int was = world.inForce;
        world.inForce = rule;
        return was;
    }

    private Rule ruleOf(int number) {
        return number >= 0 && number < ruleCount ? rules[number] : null;
    }

    private boolean isLetter(int letter) {
        return letter >= 0 && letter < world.book.letters;
    }

    private static boolean isPut(int put) {
        return put >= 0 && put < PUTS;
    }

    private static boolean within(int number, int least, int most) {
        return number >= least && number <= most;
    }

    // ---- what there is

    public int letter(int letter, int what) {
        if (!isLetter(letter)) {
            return NONE;
        }
        switch (what) {
            case 0:
                return world.now.put[letter];
            case 1:
                return world.book.meant[letter];
            case 2:
                return world.now.paid[letter];
            case 3:
                return world.now.hangs[letter];
            default:
                return NONE;
        }
    }

    public int habit(int edition, int what) {
        Book book = world.book;
        if (!book.told || !within(edition, 0, book.editionsRound() - 1) || !within(what, 0, 1)) {
            return NONE;
        }
        return what == 0 ? book.from[edition] : book.to[edition];
    }

    public int count(int what) {
        switch (what) {
            case 0:
                return world.book.quarter;
            case 1:
                return world.book.told ? world.book.editionsRound() : 0;
            case 2:
                return world.book.letters;
            case 3:
                return ruleCount;
            case 4:
                return world.inForce;
            case 5:
                return world.now.edition;
            case 6:
                return press.wrongOf(world.now);
            case 7:
                return press.looseOf(world.now);
            case 8:
                return world.now.purse;
            case 9:
                return world.now.owed;
            case 10:
                return world.notes.size;
            case 11:
                return history.size;
            case 12:
                return world.x;
            case 13:
                return tapeLength;
            default:
                return NONE;
        }
    }

    // ---- acts

    public int edition() {
        if (!world.book.told || world.now.edition >= MOST_COUNTED) {
            return NONE;
        }
        history.keep(world.now);
        readyPress(world.inForce);
        int mended = press.printEdition(world.now);
        return mended == NONE ? -2 : mended;
    }

    public int set(int letter, int put) {
        if (!isLetter(letter) || !isPut(put) || world.now.put[letter] == put) {
            return NONE;
        }
        history.keep(world.now);
        int was = world.now.put[letter];
        world.now.put[letter] = put;
        return was;
    }

    public int mend(int letter) {
        if (!isLetter(letter) || !hasBit(press.looseOf(world.now), letter)) {
            return NONE;
        }
        history.keep(world.now);
        world.now.put[letter] = world.book.meant[letter];
        return press.howManyWrong(world.now);
    }

    public int hang(int letter, int other) {
        if (!isLetter(letter) || !isLetter(other) || letter == other) {
            return NONE;
        }
        history.keep(world.now);
        world.now.hangs[letter] ^= 1 << other;
        return hasBit(world.now.hangs[letter], other) ? 1 : 0;
    }

    public int fill(int much) {
        if (!world.book.told || !within(much, 1, 99)) {
            return NONE;
        }
        history.keep(world.now);
        world.now.purse = Math.min(world.now.purse + much, MOST_COUNTED);
        return world.now.purse;
    }

    public int undo() {
        return history.takeBack(world.now) ? history.size : NONE;
    }

    private static boolean hasBit(int bits, int place) {
        return ((bits >>> place) & 1) != 0;
    }

    // ---- how it goes on

    private void readyPress(int rule) {
        press.rule = ruleOf(rule);
        press.leftOff = NONE;
    }

    private void startFrom(State state) {
        readyPress(world.inForce);
        trial.copyFrom(state);
    }

    private void goOn(int n) {
        for (int i = 0; i < n; i++) {
            press.printEdition(trial);
        }
    }

    public int ahead(int letter, int n, int what) {
        if (!world.book.told || !within(n, 0, MOST_AHEAD) || !within(what, 0, 3)) {
            return NONE;
        }
        if (what == 0 && !isLetter(letter)) {
            return NONE;
        }
        startFrom(world.now);
        goOn(n);
        switch (what) {
            case 0:
                return trial.put[letter];
            case 1:
                return press.wrongOf(trial);
            case 2:
                return trial.purse;
            default:
                return trial.owed;
        }
    }

    public int allRight() {
        return world.book.told ? firstWithoutWrong(-1) : NONE;
    }

    public int firstRight(int letter) {
        return isLetter(letter) ? firstWithoutWrong(1 << letter) : NONE;
    }

    private int firstWithoutWrong(int letters) {
        startFrom(world.now);
        for (int i = 0; i < LOOKED_AHEAD; i++) {
            int edition = trial.edition;
            press.printEdition(trial);
            if ((press.wrongOf(trial) & letters) == 0) {
                return edition;
            }
        }
        return -2;
    }

    public int unpaid(int what) {
        if (!world.book.told || !within(what, 0, 1)) {
            return NONE;
        }
        startFrom(world.now);
        for (int i = 0; i < LOOKED_AHEAD; i++) {
            int edition = trial.edition;
            press.printEdition(trial);
            if (press.notPaid != 0) {
                return what == 0 ? edition : Integer.numberOfTrailingZeros(press.notPaid);
            }
        }
        return -2;
    }

    public int row(int n, int what) {
        if (!world.book.told || !within(n, 1, MOST_ROW) || !within(what, 0, MOST_ROW)) {
            return -3;
        }
        if (what > n) {
            return -2;
        }
        readyPress(NONE);
        rowSearch.search(world.now, n);
        return what == 0 ? rowSearch.fewest : rowSearch.best[what - 1];
    }

    public int ring(int what) {
        if (!world.book.told || !within(what, 0, 1)) {
            return NONE;
        }
        startFrom(world.now);
        for (int i = 0; i <= LOOKED_FOR_RING; i++) {
            scratch[i] = packed(trial.put);
            press.printEdition(trial);
        }
        int round = world.book.editionsRound();
        for (int i = 0; i < LOOKED_FOR_RING; i++) {
            for (int later = round; i + later <= LOOKED_FOR_RING; later += round) {
                if (scratch[i] == scratch[i + later]) {
                    return what == 0 ? world.now.edition + i : later;
                }
            }
        }
        return -2;
    }

    // Ten letters of three bits each go into one number, so that rows are told apart at once.
    private static int packed(int[] put) {
        int all = 0;
        for (int i = 0; i < put.length; i++) {
            all = (all << BITS_OF_PUT) | put[i];
        }
        return all;
    }

    // ---- what stands there

    public int rings() {
        if (!world.book.told) {
            return NONE;
        }
        int wrong = press.wrongOf(world.now);
        int rings = 0;
        for (int i = 0; i < world.book.letters; i++) {
            if (hasBit(wrong, i) && hasBit(hungOver(i, wrong), i)) {
                rings |= 1 << i;
            }
        }
        return rings;
    }

    private int hungOver(int letter, int wrong) {
        int[] hangs = world.now.hangs;
        int reached = hangs[letter] & wrong;
        for (int step = 0; step < MOST_LETTERS; step++) {
            for (int i = 0; i < world.book.letters; i++) {
                if (hasBit(reached, i)) {
                    reached |= hangs[i] & wrong;
                }
            }
        }
        return reached;
    }

    public int twice(int what) {
        if (!world.book.told || !within(what, 0, 2)) {
            return NONE;
        }
        findTwice();
        return found[what];
    }

    private void findTwice() {
        int letters = world.book.letters;
        for (int length = letters - 1; length >= 1; length--) {
            for (int first = 0; first + length < letters; first++) {
                for (int second = first + 1; second + length <= letters; second++) {
                    if (isSamePart(first, second, length)) {
                        keepFound(length, first, second);
                        return;
                    }
                }
            }
        }
        keepFound(0, -2, -2);
    }

    private boolean isSamePart(int first, int second, int length) {
        for (int i = 0; i < length; i++) {
            if (world.now.put[first + i] != world.now.put[second + i]) {
                return false;
            }
        }
        return true;
    }

    private void keepFound(int zeroth, int first, int second) {
        found[0] = zeroth;
        found[1] = first;
        found[2] = second;
    }

    public int apart(int one, int other, int length) {
        if (!isLetter(one) || !isLetter(other) || !within(length, 1, MOST_LETTERS)) {
            return NONE;
        }
        int letters = world.book.letters;
        if (one + length > letters || other + length > letters) {
            return NONE;
        }
        int[] put = world.now.put;
        for (int j = 0; j <= length; j++) {
            scratch[j] = j;
        }
        for (int i = 1; i <= length; i++) {
            int corner = scratch[0];
            scratch[0] = i;
            for (int j = 1; j <= length; j++) {
                int otherwise = corner + (put[one + i - 1] == put[other + j - 1] ? 0 : 1);
                corner = scratch[j];
                scratch[j] = Math.min(otherwise, Math.min(scratch[j], scratch[j - 1]) + 1);
            }
        }
        return scratch[length];
    }

    public int pence(int much, int letter) {
        if (!within(much, 0, MOST_PENCE) || !isLetter(letter)) {
            return NONE;
        }
        int[] paid = world.now.paid;
        int letters = world.book.letters;
        int all = 0;
        for (int i = 0; i < letters; i++) {
            all += paid[i];
        }
        if (all == 0) {
            return 0;
        }
        int left = much;
        int lost = much * paid[letter] % all;
        int ahead = 0;
        for (int i = 0; i < letters; i++) {
            left -= much * paid[i] / all;
            int lostThere = much * paid[i] % all;
            if (lostThere > lost || (lostThere == lost && i < letter)) {
                ahead++;
            }
        }
        return much * paid[letter] / all + (ahead < left ? 1 : 0);
    }

    // ---- what had best be otherwise

    public int one(int n, int what) {
        if (!world.book.told || !within(n, 1, MOST_TRIED) || !within(what, 0, 2)) {
            return -2;
        }
        keepFound(wrongAhead(NONE, NONE, n), NONE, NONE);
        for (int letter = 0; letter < world.book.letters; letter++) {
            for (int put = 0; put < PUTS; put++) {
                // As it is PUT now is none, which was first: so it is never fewer.
                int wrong = wrongAhead(letter, put, n);
                if (wrong < found[0]) {
                    keepFound(wrong, letter, put);
                }
            }
        }
        return found[what];
    }

    private int wrongAhead(int letter, int put, int n) {
        startFrom(world.now);
        if (isLetter(letter)) {
            trial.put[letter] = put;
        }
        goOn(n);
        return press.howManyWrong(trial);
    }

    public int leftOff(int n, int what) {
        if (!world.book.told || !within(n, 1, MOST_TRIED) || !within(what, 0, 1)) {
            return -2;
        }
        int best = NONE;
        int fewest = MOST_LETTERS + 1;
        for (int habit = NONE; habit < world.book.habits; habit++) {
            startFrom(world.now);
            press.leftOff = habit;
            goOn(n);
            int wrong = press.howManyWrong(trial);
            if (wrong < fewest) {
                fewest = wrong;
                best = habit;
            }
        }
        return what == 0 ? best : fewest;
    }

    public int leastPurse(int n) {
        if (!world.book.told || !within(n, 1, MOST_TRIED)) {
            return NONE;
        }
        startFrom(world.now);
        if (press.rule == null || !press.rule.asksFor(Tokens.PURSE)) {
            return costOf(n);
        }
        for (int purse = 0; purse <= MOST_COUNTED; purse++) {
            if (isEnough(purse, n)) {
                return purse;
            }
        }
        return -2;
    }

    // Where no rule asks for the purse, all goes on alike by any that is enough: one try tells.
    private int costOf(int n) {
        int ample = MOST_TRIED * MOST_LETTERS * MOST_QUARTER;
        trial.purse = ample;
        goOn(n);
        int cost = ample - trial.purse;
        return cost <= MOST_COUNTED ? cost : -2;
    }

    private boolean isEnough(int purse, int n) {
        startFrom(world.now);
        trial.purse = purse;
        for (int i = 0; i < n; i++) {
            press.printEdition(trial);
            if (press.notPaid != 0) {
                return false;
            }
        }
        return true;
    }

    public int rests(int one, int other, int n, int what) {
        if (!isLetter(one) || !isLetter(other) || one == other) {
            return NONE;
        }
        if (!within(n, 1, MOST_RESTED) || !within(what, 0, 2)) {
            return NONE;
        }
        for (int two = 0; two < PUTS * PUTS; two++) {
            findGains(one, other, n, two);
        }
        keepFound(0, -2, -2);
        for (int two = PUTS * PUTS - 1; two >= 0; two--) {
            if (isRest(two)) {
                keepFound(found[0] + 1, two / PUTS, two % PUTS);
            }
        }
        return found[what];
    }

    // A two is PUTS times what the first one is put as, and what the second one is.
    private void findGains(int one, int other, int n, int two) {
        startFrom(world.now);
        trial.put[one] = two / PUTS;
        trial.put[other] = two % PUTS;
        gains[2 * two] = 0;
        gains[2 * two + 1] = 0;
        for (int i = 0; i < n; i++) {
            press.printEdition(trial);
            gains[2 * two] += press.gainOf(one);
            gains[2 * two + 1] += press.gainOf(other);
        }
    }

    private boolean isRest(int two) {
        int first = two / PUTS;
        int second = two % PUTS;
        for (int put = 0; put < PUTS; put++) {
            if (gains[2 * (put * PUTS + second)] > gains[2 * two]) {
                return false;
            }
            if (gains[2 * (first * PUTS + put) + 1] > gains[2 * two + 1]) {
                return false;
            }
        }
        return true;
    }

    // ---- notes, and by what they are so

    public int note(int n, int letter, int put) {
        Notes notes = world.notes;
        if (n == NONE) {
            notes.size = 0;
            return 0;
        }
        if (!within(n, 0, MOST_NOTED) || !isLetter(letter) || !isPut(put)) {
            return -2;
        }
        if (notes.size >= MOST_NOTES) {
            return -2;
        }
        notes.add(n, letter, put);
        return notes.size;
    }

    public int putAs(int letter) {
        if (!isLetter(letter)) {
            return NONE;
        }
        int bits = 0;
        for (int put = 0; put < PUTS; put++) {
            startFrom(world.book.begin);
            trial.put[letter] = put;
            if (areNotesSo()) {
                bits |= 1 << put;
            }
        }
        return bits;
    }

    // The 0-th EDITION is the first one that is printed: behind it one has been.
    private boolean areNotesSo() {
        int last = world.notes.last();
        for (int n = 0; n <= last; n++) {
            press.printEdition(trial);
            if (!world.notes.isSo(n, trial.put)) {
                return false;
            }
        }
        return true;
    }

    private void startByRule(int rule) {
        readyPress(rule);
        trial.copyFrom(world.book.begin);
    }

    public int ruled(int what) {
        if (!world.book.told || !within(what, 0, 1)) {
            return -3;
        }
        int many = 0;
        int first = -2;
        for (int rule = ruleCount - 1; rule >= NONE; rule--) {
            startByRule(rule);
            if (areNotesSo()) {
                many++;
                first = rule;
            }
        }
        return what == 0 ? many : first;
    }

    public int look(int n, int what) {
        if (!world.book.told || !within(n, 0, MOST_NOTED) || !within(what, 0, 1)) {
            return NONE;
        }
        int many = keepPutsOfRuled(n);
        if (many == 0 || world.book.letters == 0) {
            return -2;
        }
        int best = NONE;
        int fewest = MOST_RULES + 2;
        for (int letter = 0; letter < world.book.letters; letter++) {
            int alike = mostAlike(letter, many);
            if (alike < fewest) {
                fewest = alike;
                best = letter;
            }
        }
        return what == 0 ? best : fewest;
    }

    private int keepPutsOfRuled(int n) {
        int many = 0;
        for (int rule = NONE; rule < ruleCount; rule++) {
            startByRule(rule);
            if (areNotesSo()) {
                startByRule(rule);
                goOn(n + 1);
                scratch[many] = packed(trial.put);
                many++;
            }
        }
        return many;
    }

    private int mostAlike(int letter, int many) {
        int most = 0;
        for (int put = 0; put < PUTS; put++) {
            int alike = 0;
            for (int i = 0; i < many; i++) {
                if (unpacked(scratch[i], letter) == put) {
                    alike++;
                }
            }
            most = Math.max(most, alike);
        }
        return most;
    }

    private static int unpacked(int all, int letter) {
        return (all >>> (BITS_OF_PUT * (MOST_LETTERS - 1 - letter))) & (PUTS - 1);
    }

    // ---- draws

    public int seed(int x) {
        if (x < 0) {
            return NONE;
        }
        int was = world.x;
        world.x = x;
        return was;
    }

    public int slips(int m, int n, int p, int what) {
        if (!world.book.told || !within(m, 1, 10) || !within(n, 1, MOST_SLIPPED)) {
            return NONE;
        }
        if (!within(p, 0, 100) || !within(what, 0, 1)) {
            return NONE;
        }
        int wrong = 0;
        int owed = 0;
        int x = world.x;
        for (int time = 0; time < m; time++) {
            startFrom(world.now);
            for (int i = 0; i < n; i++) {
                x = slip(x, p);
                press.printEdition(trial);
            }
            wrong += press.howManyWrong(trial);
            owed += trial.owed;
        }
        return what == 0 ? wrong : owed;
    }

    private int slip(int x, int p) {
        int next = nextX(x);
        int letters = world.book.letters;
        if (drawOf(next) % 100 >= p || letters == 0) {
            return next;
        }
        next = nextX(next);
        int letter = drawOf(next) % letters;
        next = nextX(next);
        trial.put[letter] = drawOf(next) % PUTS;
        return next;
    }

    private static int nextX(int x) {
        return (int) ((x * 1103515245L + 12345L) % 2147483648L);
    }

    private static int drawOf(int x) {
        return x / 65536;
    }

    // ---- images

    public int image(int k) {
        if (!within(k, 0, MOST_IMAGES - 1)) {
            return NONE;
        }
        World image = images[k];
        if (image == null) {
            image = new World();
            images[k] = image;
        }
        image.copyFrom(world);
        return world.now.edition;
    }

    public int back(int k) {
        if (!within(k, 0, MOST_IMAGES - 1)) {
            return NONE;
        }
        World image = images[k];
        if (image == null) {
            return NONE;
        }
        world.copyFrom(image);
        history.forget();
        return world.now.edition;
    }

    /** All that changes by editions and by hand. */
    private static final class State {
        final int[] put = new int[MOST_LETTERS];
        final int[] paid = new int[MOST_LETTERS];
        final int[] hangs = new int[MOST_LETTERS];
        int purse;
        int owed;
        int edition;

        void copyFrom(State other) {
            System.arraycopy(other.put, 0, put, 0, MOST_LETTERS);
            System.arraycopy(other.paid, 0, paid, 0, MOST_LETTERS);
            System.arraycopy(other.hangs, 0, hangs, 0, MOST_LETTERS);
            purse = other.purse;
            owed = other.owed;
            edition = other.edition;
        }

        void clear() {
            Arrays.fill(put, 0);
            Arrays.fill(paid, 0);
            Arrays.fill(hangs, 0);
            purse = 0;
            owed = 0;
            edition = 0;
        }
    }

    /** A book as its text told it, with how it began. */
    private static final class Book {
        boolean told;
        int quarter;
        int letters;
        int habits;
        final int[] meant = new int[MOST_LETTERS];
        final int[] from = new int[MOST_HABITS];
        final int[] to = new int[MOST_HABITS];
        final State begin = new State();

        void copyFrom(Book other) {
            told = other.told;
            quarter = other.quarter;
            letters = other.letters;
            habits = other.habits;
            System.arraycopy(other.meant, 0, meant, 0, MOST_LETTERS);
            System.arraycopy(other.from, 0, from, 0, MOST_HABITS);
            System.arraycopy(other.to, 0, to, 0, MOST_HABITS);
            begin.copyFrom(other.begin);
        }

        void clear() {
            told = false;
            quarter = 0;
            letters = 0;
            habits = 0;
            Arrays.fill(meant, 0);
            Arrays.fill(from, 0);
            Arrays.fill(to, 0);
            begin.clear();
        }

        // Without a habit told the rows hold zeros: the one habit of FROM 0, TO 0.
        int editionsRound() {
            return Math.max(habits, 1);
        }

        void addLetter(int put, int meantAs) {
            if (letters < MOST_LETTERS) {
                begin.put[letters] = put;
                meant[letters] = meantAs;
                letters++;
            }
        }

        void addHabit(int fromPut, int toPut) {
            if (habits < MOST_HABITS) {
                from[habits] = fromPut;
                to[habits] = toPut;
                habits++;
            }
        }
    }

    /** Notes of what was seen behind which edition. */
    private static final class Notes {
        int size;
        private final int[] behind = new int[MOST_NOTES];
        private final int[] letters = new int[MOST_NOTES];
        private final int[] puts = new int[MOST_NOTES];

        void add(int n, int letter, int put) {
            if (size < MOST_NOTES) {
                behind[size] = n;
                letters[size] = letter;
                puts[size] = put;
                size++;
            }
        }

        int last() {
            int last = NONE;
            for (int i = 0; i < size; i++) {
                last = Math.max(last, behind[i]);
            }
            return last;
        }

        boolean isSo(int n, int[] put) {
            for (int i = 0; i < size; i++) {
                if (behind[i] == n && put[letters[i]] != puts[i]) {
                    return false;
                }
            }
            return true;
        }

        void copyFrom(Notes other) {
            size = other.size;
            System.arraycopy(other.behind, 0, behind, 0, MOST_NOTES);
            System.arraycopy(other.letters, 0, letters, 0, MOST_NOTES);
            System.arraycopy(other.puts, 0, puts, 0, MOST_NOTES);
        }
    }

    /** All that an image holds. */
    private static final class World {
        final Book book = new Book();
        final State now = new State();
        final Notes notes = new Notes();
        int inForce = NONE;
        int x;

        void open(Book told) {
            book.copyFrom(told);
            now.copyFrom(told.begin);
            notes.size = 0;
        }

        void copyFrom(World other) {
            book.copyFrom(other.book);
            now.copyFrom(other.now);
            notes.copyFrom(other.notes);
            inForce = other.inForce;
            x = other.x;
        }
    }

    /** What was ahead of the last acts; the oldest gives way. */
    private static final class History {
        int size;
        private int next;
        private final State[] states = new State[MOST_ACTS];

        void keep(State state) {
            State kept = states[next];
            if (kept == null) {
                kept = new State();
                states[next] = kept;
            }
            kept.copyFrom(state);
            next = (next + 1) % MOST_ACTS;
            size = Math.min(size + 1, MOST_ACTS);
        }

        boolean takeBack(State state) {
            if (size == 0) {
                return false;
            }
            next = (next + MOST_ACTS - 1) % MOST_ACTS;
            size--;
            State kept = states[next];
            if (kept != null) {
                state.copyFrom(kept);
            }
            return true;
        }

        void forget() {
            size = 0;
        }
    }

    /** Prints editions of the book. */
    private static final class Press {
        private final Book book;
        private final long[] words = new long[Tokens.VALUE_WORDS];
        Rule rule;
        int leftOff = NONE;
        // Of the last edition, as bits.
        int gotPaid;
        int notPaid;

        Press(Book book) {
            this.book = book;
        }

        int wrongOf(State state) {
            int wrong = 0;
            for (int i = 0; i < book.letters; i++) {
                if (state.put[i] != book.meant[i]) {
                    wrong |= 1 << i;
                }
            }
            return wrong;
        }

        int howManyWrong(State state) {
            return Integer.bitCount(wrongOf(state));
        }

        int looseOf(State state) {
            return looseOfWrong(state, wrongOf(state));
        }

        private int looseOfWrong(State state, int wrong) {
            int loose = 0;
            for (int i = 0; i < book.letters; i++) {
                if (hasBit(wrong, i) && (state.hangs[i] & wrong) == 0) {
                    loose |= 1 << i;
                }
            }
            return loose;
        }

        int printEdition(State state) {
            int mended = chosen(state);
            printWith(state, mended);
            return mended;
        }

        void printWith(State state, int mended) {
            if (mended >= 0 && mended < book.letters) {
                state.put[mended] = book.meant[mended];
            }
            putByHabit(state, mended);
            payAll(state);
            state.edition++;
        }

        private int chosen(State state) {
            int wrong = wrongOf(state);
            int loose = looseOfWrong(state, wrong);
            if (loose == 0) {
                return NONE;
            }
            if (rule == null) {
                return Integer.numberOfTrailingZeros(loose);
            }
            tellWords(state, wrong, loose);
            int best = NONE;
            long most = 0;
            for (int i = 0; i < book.letters; i++) {
                if (hasBit(loose, i)) {
                    tellWordsOf(state, i, wrong);
                    long sum = rule.sumFor(words);
                    if (sum > most) {
                        most = sum;
                        best = i;
                    }
                }
            }
            return best;
        }

        private int habitOf(State state) {
            return book.habits > 0 ? state.edition % book.habits : 0;
        }

        private void tellWords(State state, int wrong, int loose) {
            int habit = habitOf(state);
            words[Tokens.LOOSE] = Integer.bitCount(loose);
            words[Tokens.WRONG] = Integer.bitCount(wrong);
            words[Tokens.PURSE] = state.purse;
            words[Tokens.OWED] = state.owed;
            words[Tokens.FROM] = book.from[habit];
            words[Tokens.TO] = book.to[habit];
            words[Tokens.EDITION] = state.edition;
        }

        private void tellWordsOf(State state, int letter, int wrong) {
            int over = 0;
            for (int i = 0; i < book.letters; i++) {
                if (hasBit(wrong, i) && hasBit(state.hangs[i], letter)) {
                    over++;
                }
            }
            words[Tokens.LETTER] = letter;
            words[Tokens.PUT] = state.put[letter];
            words[Tokens.MEANT] = book.meant[letter];
            words[Tokens.OVER] = over;
            words[Tokens.PAID] = state.paid[letter];
        }

        private void putByHabit(State state, int mended) {
            int habit = habitOf(state);
            if (habit == leftOff) {
                return;
            }
            for (int i = 0; i < book.letters; i++) {
                if (i != mended && state.put[i] == book.from[habit]) {
                    state.put[i] = book.to[habit];
                    return;
                }
            }
        }

        private void payAll(State state) {
            gotPaid = 0;
            notPaid = 0;
            for (int i = 0; i < book.letters; i++) {
                if (state.put[i] != book.meant[i]) {
                    payOne(state, i);
                }
            }
        }

        private void payOne(State state, int letter) {
            if (state.purse >= book.quarter) {
                state.purse -= book.quarter;
                state.paid[letter] = Math.min(state.paid[letter] + 1, MOST_COUNTED);
                gotPaid |= 1 << letter;
            } else {
                state.owed = Math.min(state.owed + 1, MOST_COUNTED);
                notPaid |= 1 << letter;
            }
        }

        int gainOf(int letter) {
            if (hasBit(gotPaid, letter)) {
                return 1;
            }
            return hasBit(notPaid, letter) ? -1 : 0;
        }
    }

    /** The best row of mendings, looked for by trying them all. */
    private static final class RowSearch {
        private final Press press;
        private final State[] states = new State[MOST_ROW + 1];
        private final int[] tried = new int[MOST_ROW];
        final int[] best = new int[MOST_ROW];
        int fewest;

        RowSearch(Press press) {
            this.press = press;
            for (int i = 0; i <= MOST_ROW; i++) {
                states[i] = new State();
            }
        }

        void search(State from, int n) {
            fewest = MOST_LETTERS + 1;
            State first = states[0];
            if (first != null) {
                first.copyFrom(from);
                tryFrom(this, 0, Math.min(n, MOST_ROW));
            }
        }

        private static void tryFrom(RowSearch search, int depth, int n) {
            State here = search.states[depth];
            if (here == null) {
                return;
            }
            if (depth >= n) {
                search.keepIfFewer(here, n);
                return;
            }
            State next = search.states[depth + 1];
            int loose = search.press.looseOf(here);
            for (int mended = NONE; next != null && mended < MOST_LETTERS; mended++) {
                if (mended == NONE || hasBit(loose, mended)) {
                    search.tried[depth] = mended;
                    next.copyFrom(here);
                    search.press.printWith(next, mended);
                    tryFrom(search, depth + 1, n);
                }
            }
        }

        private void keepIfFewer(State state, int n) {
            int wrong = press.howManyWrong(state);
            if (wrong < fewest) {
                fewest = wrong;
                System.arraycopy(tried, 0, best, 0, n);
            }
        }
    }

    /** A rule that was told: its clauses one behind the other, each a sum and then its test. */
    private static final class Rule {
        // A code that is 0 or more is a number; -1 to -12 are the words; below these are the acts.
        static final int NOT = -20;
        static final int AND = -21;
        static final int OR = -22;
        static final int ADD = -23;
        static final int TAKE = -24;
        static final int TIMES = -25;
        static final int PARTED = -26;
        static final int REST = -27;
        static final int LESS = -28;
        static final int LESS_OR_SAME = -29;
        static final int SAME = -30;
        static final int MORE_OR_SAME = -31;
        static final int MORE = -32;

        private final int[] codes;
        private final int[] sumEnds;
        private final int[] clauseEnds;
        private final long[] stack;

        Rule(int[] codes, int[] sumEnds, int[] clauseEnds) {
            this.codes = codes;
            this.sumEnds = sumEnds;
            this.clauseEnds = clauseEnds;
            this.stack = new long[codes.length + 1];
        }

        long sumFor(long[] words) {
            int start = 0;
            for (int i = 0; i < clauseEnds.length; i++) {
                boolean tested = sumEnds[i] < clauseEnds[i];
                if (!tested || valueOf(sumEnds[i], clauseEnds[i], words) != 0) {
                    return valueOf(start, sumEnds[i], words);
                }
                start = clauseEnds[i];
            }
            return 0;
        }

        private long valueOf(int start, int behind, long[] words) {
            int top = 0;
            for (int i = start; i < behind; i++) {
                int code = codes[i];
                if (code > NOT) {
                    if (top < stack.length) {
                        stack[top] = code >= 0 ? code : words[-1 - code];
                        top++;
                    }
                } else if (code == NOT) {
                    if (top >= 1) {
                        stack[top - 1] = stack[top - 1] == 0 ? 1 : 0;
                    }
                } else if (top >= 2) {
                    top--;
                    stack[top - 1] = joined(code, stack[top - 1], stack[top]);
                }
            }
            return top >= 1 ? stack[top - 1] : 0;
        }

        private static long joined(int code, long left, long right) {
            switch (code) {
                case ADD:
                    return left + right;
                case TAKE:
                    return left - right;
                case TIMES:
                    return left * right;
                case PARTED:
                    return right == 0 ? 0 : left / right;
                case REST:
                    return right == 0 ? 0 : left % right;
                case AND:
                    return left != 0 && right != 0 ? 1 : 0;
                case OR:
                    return left != 0 || right != 0 ? 1 : 0;
                case LESS:
                    return left < right ? 1 : 0;
                case LESS_OR_SAME:
                    return left <= right ? 1 : 0;
                case SAME:
                    return left == right ? 1 : 0;
                case MORE_OR_SAME:
                    return left >= right ? 1 : 0;
                default:
                    return left > right ? 1 : 0;
            }
        }

        boolean asksFor(int word) {
            for (int i = 0; i < codes.length; i++) {
                if (codes[i] == codeOf(word)) {
                    return true;
                }
            }
            return false;
        }

        static int codeOf(int word) {
            return -1 - word;
        }
    }

    /** A text in its words, numbers and signs, gone along one by one, with its first fault. */
    private static final class Tokens {
        static final int END = 0;
        static final int NUMBER = 1;
        static final int LONG_NUMBER = 2;
        static final int WORD = 3;
        static final int SIGN = 4;
        static final int STRANGE = 5;

        // The words up to VALUE_WORDS are those that a value can be.
        static final int LETTER = 0;
        static final int PUT = 1;
        static final int MEANT = 2;
        static final int OVER = 3;
        static final int LOOSE = 4;
        static final int WRONG = 5;
        static final int PAID = 6;
        static final int PURSE = 7;
        static final int OWED = 8;
        static final int FROM = 9;
        static final int TO = 10;
        static final int EDITION = 11;
        static final int VALUE_WORDS = 12;
        static final int BOOK = 12;
        static final int HABIT = 13;
        static final int HANGS = 14;
        static final int MEND = 15;
        static final int IF = 16;
        static final int OR = 17;
        static final int AND = 18;
        static final int NOT = 19;
        // Each word has a blank behind it, the last one too.
        private static final String WORDS =
                "letter put meant over loose wrong paid purse owed from to edition book habit hangs mend if or and not ";

        static final int CANNOT_STAND = 0;
        static final int NOT_AS_TOLD = 1;
        static final int TOO_DEEP = 2;
        static final int TOO_MANY_VALUES = 3;
        static final int TOO_MANY_CLAUSES = 4;

        private static final String SIGNS = ";<=>+-*/%[]";
        // Added to a sign that has = behind it and is one with it.
        static final int OR_SAME = 256;
        private static final int MOST_DIGITS = 5;

        private final int[] kinds = new int[MOST_BYTES + 1];
        private final int[] values = new int[MOST_BYTES + 1];
        private final int[] places = new int[MOST_BYTES + 1];
        private int size;
        private int at;
        int kind;
        int value;
        int fault;

        void split(int[] text, int length) {
            size = 0;
            int place = 0;
            while (place < length) {
                place = Math.max(place + 1, splitOne(text, length, place));
            }
            add(END, 0, length);
            at = 0;
            kind = kinds[0];
            value = values[0];
            fault = 0;
        }

        // These answer the place behind what they split off.
        private int splitOne(int[] text, int length, int place) {
            int sign = text[place];
            if (sign == ' ') {
                return place + 1;
            }
            if (isDigit(sign)) {
                return splitNumber(text, length, place);
            }
            return isSmall(sign) ? splitWord(text, length, place) : splitSign(text, length, place);
        }

        private int splitNumber(int[] text, int length, int place) {
            int number = 0;
            int behind = place;
            while (behind < length && isDigit(text[behind])) {
                if (behind - place < MOST_DIGITS) {
                    number = number * 10 + text[behind] - '0';
                }
                behind++;
            }
            add(behind - place > MOST_DIGITS ? LONG_NUMBER : NUMBER, number, place);
            return behind;
        }

        private int splitWord(int[] text, int length, int place) {
            int behind = place;
            while (behind < length && isSmall(text[behind])) {
                behind++;
            }
            int word = wordOf(text, place, behind);
            add(word == NONE ? STRANGE : WORD, word, place);
            return behind;
        }

        private int splitSign(int[] text, int length, int place) {
            int sign = text[place];
            if (SIGNS.indexOf((char) sign) < 0) {
                add(STRANGE, 0, place);
                return place + 1;
            }
            boolean orSame = (sign == '<' || sign == '>') && place + 1 < length && text[place + 1] == '=';
            add(SIGN, orSame ? sign + OR_SAME : sign, place);
            return orSame ? place + 2 : place + 1;
        }

        private void add(int newKind, int newValue, int place) {
            if (size < kinds.length) {
                kinds[size] = newKind;
                values[size] = newValue;
                places[size] = place;
                size++;
            }
        }

        private static int wordOf(int[] text, int place, int behind) {
            int word = 0;
            int start = 0;
            for (int i = 0; i < WORDS.length(); i++) {
                if (WORDS.charAt(i) == ' ') {
                    if (i - start == behind - place && isSpelt(text, place, start, i)) {
                        return word;
                    }
                    word++;
                    start = i + 1;
                }
            }
            return NONE;
        }

        private static boolean isSpelt(int[] text, int place, int start, int stop) {
            for (int i = start; i < stop; i++) {
                if (text[place + i - start] != WORDS.charAt(i)) {
                    return false;
                }
            }
            return true;
        }

        private static boolean isDigit(int sign) {
            return sign >= '0' && sign <= '9';
        }

        private static boolean isSmall(int sign) {
            return sign >= 'a' && sign <= 'z';
        }

        boolean isWord(int word) {
            return kind == WORD && value == word;
        }

        boolean isSign(int sign) {
            return kind == SIGN && value == sign;
        }

        void takeSign(int sign) {
            if (isSign(sign)) {
                goOn();
            } else {
                fail(CANNOT_STAND);
            }
        }

        void goOn() {
            if (fault == 0 && at + 1 < size) {
                at++;
                kind = kinds[at];
                value = values[at];
            }
        }

        // Behind a fault everything is strange, so that no reader goes on.
        void fail(int what) {
            if (fault == 0) {
                fault = 1 + 8 * places[at] + what;
                kind = STRANGE;
            }
        }
    }

    /** Reads the text of a book. */
    private static final class BookReader {
        private static final int MOST_CLAUSES = 40;

        private final Tokens tokens;
        final Book told = new Book();

        BookReader(Tokens tokens) {
            this.tokens = tokens;
        }

        int readBook() {
            told.clear();
            for (int clause = 0; clause <= MOST_CLAUSES; clause++) {
                readClause(clause);
                if (tokens.kind == Tokens.END) {
                    told.told = true;
                    return 0;
                }
                tokens.takeSign(';');
                if (tokens.fault != 0) {
                    break;
                }
            }
            return tokens.fault;
        }

        private void readClause(int clause) {
            boolean isBook = tokens.isWord(Tokens.BOOK);
            boolean isLetter = tokens.isWord(Tokens.LETTER);
            boolean isHabit = tokens.isWord(Tokens.HABIT);
            boolean isHangs = tokens.isWord(Tokens.HANGS);
            if (!isBook && !isLetter && !isHabit && !isHangs) {
                tokens.fail(Tokens.CANNOT_STAND);
            } else if (clause >= MOST_CLAUSES || isBook != (clause == 0)
                    || (isLetter && told.letters >= MOST_LETTERS)
                    || (isHabit && told.habits >= MOST_HABITS)) {
                tokens.fail(Tokens.TOO_MANY_CLAUSES);
            } else {
                tokens.goOn();
                if (isBook) {
                    readPay();
                } else if (isHangs) {
                    readHangs();
                } else {
                    readPuts(isLetter);
                }
            }
        }

        private void readPay() {
            told.quarter = readNumber(1, MOST_QUARTER, NONE);
            told.begin.purse = readNumber(0, MOST_COUNTED, NONE);
        }

        private void readPuts(boolean ofLetter) {
            int first = readNumber(0, PUTS - 1, NONE);
            int second = readNumber(0, PUTS - 1, NONE);
            if (ofLetter) {
                told.addLetter(first, second);
            } else {
                told.addHabit(first, second);
            }
        }

        private void readHangs() {
            int first = readNumber(0, told.letters - 1, NONE);
            int second = readNumber(0, told.letters - 1, first);
            if (first >= 0 && second >= 0) {
                told.begin.hangs[first] |= 1 << second;
            }
        }

        private int readNumber(int least, int most, int except) {
            int number = tokens.value;
            if (tokens.kind == Tokens.LONG_NUMBER) {
                tokens.fail(Tokens.NOT_AS_TOLD);
            } else if (tokens.kind != Tokens.NUMBER) {
                tokens.fail(Tokens.CANNOT_STAND);
            } else if (number < least || number > most || number == except) {
                tokens.fail(Tokens.NOT_AS_TOLD);
            } else {
                tokens.goOn();
                return number;
            }
            return NONE;
        }
    }

    /** Reads the text of a rule into its codes: what is joined first, then how. */
    private static final class RuleReader {
        private static final int MOST_CLAUSES = 12;
        private static final int MOST_DEEP = 10;
        private static final int MOST_VALUES = 60;

        private final Tokens tokens;
        private final int[] codes = new int[MOST_BYTES];
        private final int[] sumEnds = new int[MOST_CLAUSES];
        private final int[] clauseEnds = new int[MOST_CLAUSES];
        private int size;
        private int clauses;
        private int values;

        RuleReader(Tokens tokens) {
            this.tokens = tokens;
        }

        Rule made() {
            return new Rule(Arrays.copyOf(codes, size), Arrays.copyOf(sumEnds, clauses),
                    Arrays.copyOf(clauseEnds, clauses));
        }

        int readRule() {
            size = 0;
            clauses = 0;
            values = 0;
            while (clauses < MOST_CLAUSES) {
                if (!tokens.isWord(Tokens.MEND)) {
                    tokens.fail(Tokens.CANNOT_STAND);
                    return tokens.fault;
                }
                tokens.goOn();
                readSum();
                sumEnds[clauses] = size;
                if (tokens.isWord(Tokens.IF)) {
                    tokens.goOn();
                    readTest(0);
                }
                clauseEnds[clauses] = size;
                clauses++;
                if (tokens.kind == Tokens.END) {
                    return 0;
                }
                tokens.takeSign(';');
            }
            tokens.fail(tokens.isWord(Tokens.MEND) ? Tokens.TOO_MANY_CLAUSES : Tokens.CANNOT_STAND);
            return tokens.fault;
        }

        private void readTest(int depth) {
            boolean or = false;
            boolean and = false;
            for (int i = 0; i < MOST_BYTES; i++) {
                readFact(depth);
                if (and) {
                    add(Rule.AND);
                }
                and = tokens.isWord(Tokens.AND);
                if (!and) {
                    if (or) {
                        add(Rule.OR);
                    }
                    or = tokens.isWord(Tokens.OR);
                    if (!or) {
                        return;
                    }
                }
                tokens.goOn();
            }
        }

        private void readFact(int depth) {
            boolean isNot = tokens.isWord(Tokens.NOT);
            if (!isNot && !tokens.isSign('[')) {
                readComparison();
            } else if (depth >= MOST_DEEP) {
                tokens.fail(Tokens.TOO_DEEP);
            } else {
                tokens.goOn();
                if (isNot) {
                    readFact(depth + 1);
                    add(Rule.NOT);
                } else {
                    readTest(depth + 1);
                    tokens.takeSign(']');
                }
            }
        }

        private void readComparison() {
            readSum();
            int code = codeOfComparison();
            if (code == 0) {
                tokens.fail(Tokens.CANNOT_STAND);
            } else if (values >= MOST_VALUES) {
                tokens.fail(Tokens.TOO_MANY_VALUES);
            } else {
                values++;
                tokens.goOn();
                readSum();
                add(code);
            }
        }

        private void readSum() {
            int sumCode = 0;
            int termCode = 0;
            for (int i = 0; i < MOST_BYTES; i++) {
                readValue();
                if (termCode != 0) {
                    add(termCode);
                }
                termCode = codeOfTerm();
                if (termCode == 0) {
                    if (sumCode != 0) {
                        add(sumCode);
                    }
                    sumCode = codeOfSum();
                    if (sumCode == 0) {
                        return;
                    }
                }
                tokens.goOn();
            }
        }

        private void readValue() {
            boolean isWord = tokens.kind == Tokens.WORD && tokens.value < Tokens.VALUE_WORDS;
            if (tokens.kind == Tokens.LONG_NUMBER) {
                tokens.fail(Tokens.NOT_AS_TOLD);
            } else if (!isWord && tokens.kind != Tokens.NUMBER) {
                tokens.fail(Tokens.CANNOT_STAND);
            } else if (values >= MOST_VALUES) {
                tokens.fail(Tokens.TOO_MANY_VALUES);
            } else {
                values++;
                add(isWord ? Rule.codeOf(tokens.value) : tokens.value);
                tokens.goOn();
            }
        }

        private void add(int code) {
            if (size < codes.length) {
                codes[size] = code;
                size++;
            }
        }

        // These answer 0, if the sign here is none of theirs.
        private int codeOfComparison() {
            if (tokens.kind != Tokens.SIGN) {
                return 0;
            }
            switch (tokens.value) {
                case '<':
                    return Rule.LESS;
                case '<' + Tokens.OR_SAME:
                    return Rule.LESS_OR_SAME;
                case '=':
                    return Rule.SAME;
                case '>' + Tokens.OR_SAME:
                    return Rule.MORE_OR_SAME;
                case '>':
                    return Rule.MORE;
                default:
                    return 0;
            }
        }

        private int codeOfTerm() {
            if (tokens.kind != Tokens.SIGN) {
                return 0;
            }
            switch (tokens.value) {
                case '*':
                    return Rule.TIMES;
                case '/':
                    return Rule.PARTED;
                case '%':
                    return Rule.REST;
                default:
                    return 0;
            }
        }

        private int codeOfSum() {
            if (tokens.isSign('+')) {
                return Rule.ADD;
            }
            return tokens.isSign('-') ? Rule.TAKE : 0;
        }
    }
}
