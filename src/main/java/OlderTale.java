import java.util.Arrays;

/**
 * A table at which a story may be told only if it is older than the one before.
 * ../shared/DOC.md says, as numbered promises, what every public method answers.
 */
public final class OlderTale {
  public static final int NONE = -1;

  private static final int BAD_NUMBER = -1;
  private static final int NO_SUCH = -2;
  private static final int NOT_NOW = -3;
  private static final int NO_ROOM = -5;
  private static final int BAD_TEXT = -6;

  private static final int TALES = 10;
  private static final int SETS = 1 << TALES;
  private static final int LAWS = 6;
  private static final int IMAGES = 2;
  private static final int BYTES = 400;
  private static final int ROW_BYTES = 6;
  private static final int TELLERS = 4;
  private static final int LAST_YEAR = 2000;
  private static final int MOST_BASE = 99;
  private static final int ALL_KNOW = 15;
  private static final int MOST_MOOD = 9;
  private static final int MOST_AHEAD = 500;
  private static final int MOST_SEED = 1000000;
  private static final int SMALL_SET = 7;
  private static final int EVENINGS = 4;

  /** What stands in the place of a teller where nobody told a tale yet. */
  private static final int NOBODY = TELLERS;
  /** A year so late that behind it every tale can be told in its own last year. */
  private static final int FREE = 10000;
  /** A year that no telling reaches, not even FREE. */
  private static final int NEVER = 100000;
  /** More than all tales together can be worth, so that one tale more outranks any worth. */
  private static final int TALE_RANK = 10000;

  private static final int CLAUSES = 12;
  private static final int PARTS = 50;
  private static final int BRACKETS = 8;
  private static final int MOST_NUMBER = 2000;
  private static final int MOST_WORTH = 999;
  private static final long BROKEN_BEYOND = 1000000000L;
  /** Every token makes one step at most, and every clause two more. */
  private static final int STEPS = BYTES + 2 * CLAUSES;
  /** Each part of a law and the two numbers of a clause stand on it at once at most. */
  private static final int STACK = PARTS + 4;

  /** The words of laws, in the order of the kinds below. */
  private static final String WORDS =
      "worth gap bars if or and not tale from to span base known mood teller ";

  // The kinds of tokens: a byte that is neither letter nor digit is its own kind.
  private static final int WORTH = 256;
  private static final int GAP = 257;
  private static final int BARS = 258;
  private static final int IF = 259;
  private static final int OR = 260;
  private static final int AND = 261;
  private static final int NOT = 262;
  private static final int FIRST_FACT = 263;
  private static final int LAST_FACT = 270;
  private static final int NO_WORD = 280;
  private static final int NUMBER = 281;
  private static final int FACT = 282;
  private static final int TEXT_END = 283;

  private static final int FACTS = LAST_FACT - FIRST_FACT + 1;
  private static final int TELLER_FACT = FACTS - 1;

  private final Table table = new Table();
  private final Table[] images = new Table[IMAGES];
  private final boolean[] kept = new boolean[IMAGES];
  private final int[] tape = new int[BYTES];
  private int bytes = 0;
  private final Reader reader = new Reader();
  private int faultAt = NONE;
  private int mumbledLast = 0;
  private final Plan plan = new Plan();
  /** Large and seldom asked for, so made at the first call that needs them. */
  private Plan trial = null;
  private Season season = null;
  private final Dates dates = new Dates();
  private final Triples line = new Triples();
  private final Triples evening = new Triples();
  private final int[] choices = new int[TALES * TELLERS];
  private final int[] refused = new int[1 - BAD_TEXT];
  private int latest = 0;

  public OlderTale() {
    for (int k = 0; k < IMAGES; k++) {
      images[k] = new Table();
    }
  }

  public int tale(int from, int to, int base, int known) {
    if (!Table.canBe(from, to, base, known)) {
      return refuse(BAD_NUMBER);
    }
    if (table.tales >= TALES) {
      return refuse(NO_ROOM);
    }
    table.add(from, to, base, known);
    plan.spoil();
    return accept(table.tales - 1);
  }

  public int put(int tale, int what, int value) {
    if (!Table.canPut(what, value)) {
      return refuse(BAD_NUMBER);
    }
    if (!table.has(tale)) {
      return refuse(NO_SUCH);
    }
    if ((what == 0 && value > table.to[tale]) || (what == 1 && value < table.from[tale])) {
      return refuse(BAD_NUMBER);
    }
    int[] column = table.column(what);
    int was = column[tale];
    column[tale] = value;
    plan.spoil();
    return accept(was);
  }

  public int of(int tale, int what) {
    if (!table.has(tale) || what < 0 || what > 5) {
      return NONE;
    }
    if (what < 4) {
      return table.column(what)[tale];
    }
    plan.weigh(table);
    return what == 4 ? plan.worth[tale] : plan.gap[tale];
  }

  public int can(int tale, int teller) {
    if (!table.has(tale) || !table.seats(teller)) {
      return NONE;
    }
    plan.weigh(table);
    return plan.able[tale] >> teller & 1;
  }

  public int terms(int what, int value) {
    boolean fits = (what == 0 && value >= 1 && value <= TELLERS)
        || (what == 1 && value >= 0 && value <= 1)
        || (what == 2 && value >= 0 && value <= MOST_MOOD);
    if (!fits) {
      return refuse(BAD_NUMBER);
    }
    int was = table.terms[what];
    table.terms[what] = value;
    plan.spoil();
    return accept(was);
  }

  public int feed(int a, int b, int c, int d, int e) {
    if (bytes + 20 > BYTES) {
      return NONE;
    }
    lay(a);
    lay(b);
    lay(c);
    lay(d);
    lay(e);
    return bytes;
  }

  public int end(int n) {
    if (n < 0 || n > bytes) {
      return NONE;
    }
    bytes = n;
    return n;
  }

  public int row() {
    if (bytes == 0) {
      return refuse(BAD_TEXT);
    }
    int came = 0;
    int lost = 0;
    for (int at = 0; at < bytes; at += ROW_BYTES) {
      if (comesFrom(at)) {
        came++;
      } else {
        lost++;
      }
    }
    bytes = 0;
    mumbledLast = lost;
    plan.spoil();
    return accept(came);
  }

  public int mumbled() {
    return mumbledLast;
  }

  public int law() {
    int length = bytes;
    bytes = 0;
    if (table.lawCount >= LAWS) {
      return refuse(NO_ROOM);
    }
    Law read = reader.read(tape, length);
    faultAt = reader.faultAt;
    if (read == null) {
      return refuse(BAD_TEXT);
    }
    table.laws[table.lawCount] = read;
    table.lawCount++;
    return accept(table.lawCount - 1);
  }

  public int fault() {
    return faultAt;
  }

  public int force(int law) {
    if (law < NONE || law >= table.lawCount) {
      return refuse(NO_SUCH);
    }
    int was = table.inForce;
    table.inForce = law;
    plan.spoil();
    return accept(was);
  }

  public int tell(int tale, int teller) {
    if (!table.seats(teller)) {
      return refuse(BAD_NUMBER);
    }
    if (!table.has(tale)) {
      return refuse(NO_SUCH);
    }
    plan.weigh(table);
    int year = plan.yearOf(tale, table.lastYear());
    int who = plan.followers(tale, 1 << table.lastTeller());
    if ((table.toldSet() >> tale & 1) != 0 || year == NONE || (who >> teller & 1) == 0) {
      return refuse(NOT_NOW);
    }
    table.told.add(tale, year, teller);
    return accept(year);
  }

  public int hush() {
    return table.told.drop();
  }

  public int heard(int i, int what) {
    return table.told.at(i, what);
  }

  public int open() {
    plan.weigh(table);
    int untold = table.untold();
    int bits = 0;
    for (int tale = 0; tale < table.tales; tale++) {
      boolean next = plan.yearOf(tale, table.lastYear()) != NONE
          && plan.followers(tale, 1 << table.lastTeller()) != 0;
      if (next && (untold >> tale & 1) != 0) {
        bits |= 1 << tale;
      }
    }
    return bits;
  }

  public int goes(int tales) {
    if ((tales & ~table.untold()) != 0) {
      return NONE;
    }
    plan.reckon(table);
    return plan.fits(tales, table.lastYear(), table.lastTeller()) ? 1 : 0;
  }

  public int best(int by, int what) {
    if (by < 0 || by > 1 || what < 0 || what > 3) {
      return NONE;
    }
    plan.reckon(table);
    plan.choose(table, by == 1);
    if (what == 0) {
      return plan.sums[plan.chosen];
    }
    if (what == 1) {
      return Integer.bitCount(plan.chosen);
    }
    return what == 2 ? plan.chosen : plan.ways;
  }

  public int order(int tales, int i, int what) {
    if ((tales & ~table.untold()) != 0) {
      return NONE;
    }
    plan.reckon(table);
    if (!plan.fits(tales, table.lastYear(), table.lastTeller())) {
      return NONE;
    }
    plan.lineUp(table, tales, line);
    return line.at(i, what);
  }

  public int orders(int tales) {
    if ((tales & ~table.untold()) != 0 || Integer.bitCount(tales) > SMALL_SET) {
      return NONE;
    }
    plan.weigh(table);
    return plan.rows(tales, table.lastYear(), 1 << table.lastTeller(), 0);
  }

  public int duel(int what) {
    int untold = table.untold();
    if (what < 0 || what > 1 || Integer.bitCount(untold) > SMALL_SET) {
      return NONE;
    }
    plan.weigh(table);
    int next = table.lastTeller() == 0 ? 1 : 0;
    int tale = plan.winningTale(untold, table.lastYear(), next, 0);
    if (what == 1) {
      return tale;
    }
    return tale == NONE ? 1 - next : next;
  }

  public int winter(int evenings, int i) {
    if (evenings < 1 || evenings > EVENINGS || i < NONE || i >= evenings) {
      return NONE;
    }
    plan.reckon(table);
    if (season == null) {
      season = new Season();
    }
    season.lay(plan, evenings - 1);
    int left = table.all();
    if (i == NONE) {
      return season.most(plan, evenings, left);
    }
    int set = 0;
    for (int k = 0; k <= i; k++) {
      left &= ~set;
      set = season.lowest(plan, evenings - k, left);
    }
    return set;
  }

  public int learn(int teller, int what) {
    if (!table.seats(teller) || what < 0 || what > 1) {
      return NONE;
    }
    int lesson = NONE;
    int top = NONE;
    for (int tale = 0; tale < table.tales; tale++) {
      if ((table.known[tale] >> teller & 1) == 0) {
        int worth = worthIfKnown(tale, teller);
        if (worth > top) {
          top = worth;
          lesson = tale;
        }
      }
    }
    return what == 0 ? lesson : top;
  }

  public int mention(int older, int younger, int years) {
    if (years < 0 || years > MOST_AHEAD) {
      return refuse(BAD_NUMBER);
    }
    if (!table.has(older) || !table.has(younger)) {
      return refuse(NO_SUCH);
    }
    if (older == younger) {
      return refuse(NOT_NOW);
    }
    if (table.mentions.isFull()) {
      return refuse(NO_ROOM);
    }
    table.mentions.add(older, younger, years);
    return accept(table.mentions.size);
  }

  public int forget() {
    return table.mentions.drop();
  }

  public int dated(int tale, int what) {
    if (!table.has(tale) || what < 0 || what > 1) {
      return NONE;
    }
    int all = (1 << table.mentions.size) - 1;
    if (!dates.agree(table, all)) {
      return NONE;
    }
    if (what == 0) {
      return dates.early[tale];
    }
    dates.reckonLate(table);
    return dates.late[tale];
  }

  public int doubt(int what) {
    if (what < 0 || what > 2) {
      return NONE;
    }
    dates.leaveOut(table);
    if (what == 0) {
      return Integer.bitCount(dates.leftOut);
    }
    return what == 1 ? dates.leftOut : dates.ways;
  }

  public int claim(int tale, int year, int teller) {
    if (year < 0 || year > LAST_YEAR || teller < 0 || teller >= TELLERS) {
      return refuse(BAD_NUMBER);
    }
    if (!table.has(tale)) {
      return refuse(NO_SUCH);
    }
    if (table.claims.isFull()) {
      return refuse(NO_ROOM);
    }
    table.claims.add(tale, year, teller);
    return accept(table.claims.size);
  }

  public int clear() {
    return table.claims.drop();
  }

  public int wrong() {
    plan.weigh(table);
    return plan.firstWrong(table.claims, NONE);
  }

  public int liars() {
    plan.weigh(table);
    int bits = 0;
    for (int i = 0; i < table.claims.size; i++) {
      if (plan.firstWrong(table.claims, i) == NONE) {
        bits |= 1 << i;
      }
    }
    return bits;
  }

  public int draw(int seed) {
    if (seed < 0 || seed > MOST_SEED) {
      return refuse(BAD_NUMBER);
    }
    plan.weigh(table);
    evening.drop();
    int untold = table.untold();
    int year = table.lastYear();
    int teller = table.lastTeller();
    int s = seed;
    for (int n = 0; n < TALES; n++) {
      int size = plan.listChoices(untold, year, teller, choices);
      if (size <= 0) {
        break;
      }
      s = (int) ((s * 1103L + 12345L) % 1000003L);
      int pick = choices[s % size];
      int tale = pick / TELLERS;
      teller = pick % TELLERS;
      year = plan.yearOf(tale, year);
      untold &= ~(1 << tale);
      evening.add(tale, year, teller);
    }
    return accept(evening.size);
  }

  public int drawn(int i, int what) {
    return evening.at(i, what);
  }

  public int image(int k) {
    if (k < 0 || k >= IMAGES) {
      return refuse(BAD_NUMBER);
    }
    images[k].copyFrom(table);
    kept[k] = true;
    return accept(0);
  }

  public int back(int k) {
    if (k < 0 || k >= IMAGES) {
      return refuse(BAD_NUMBER);
    }
    if (!kept[k]) {
      return refuse(NO_SUCH);
    }
    table.copyFrom(images[k]);
    plan.spoil();
    return accept(0);
  }

  public int count(int what) {
    switch (what) {
      case 0: return table.tales;
      case 1: return table.lawCount;
      case 2: return table.told.size;
      case 3: return table.mentions.size;
      case 4: return table.claims.size;
      case 5: return bytes;
      case 6: return refused[-BAD_NUMBER];
      case 7: return refused[-NO_SUCH];
      case 8: return refused[-NOT_NOW];
      case 9: return refused[-NO_ROOM];
      case 10: return refused[-BAD_TEXT];
      case 11: return table.inForce;
      case 12: return table.terms[0];
      case 13: return table.terms[1];
      case 14: return table.terms[2];
      default: return NONE;
    }
  }

  public int status() {
    return latest;
  }

  private int refuse(int code) {
    latest = code;
    if (code < 0 && code >= BAD_TEXT) {
      refused[-code]++;
    }
    return code;
  }

  private int accept(int answer) {
    latest = 0;
    return answer;
  }

  private void lay(int number) {
    for (int shift = 24; shift >= 0 && bytes < BYTES; shift -= 8) {
      tape[bytes] = number >> shift & 255;
      bytes++;
    }
  }

  /** Whether a tale came from the six bytes of the tape there. */
  private boolean comesFrom(int at) {
    if (at < 0 || at + ROW_BYTES > bytes || table.tales >= TALES) {
      return false;
    }
    int from = tape[at] * 256 + tape[at + 1];
    int to = tape[at + 2] * 256 + tape[at + 3];
    int base = tape[at + 4];
    int known = tape[at + 5];
    if (!Table.canBe(from, to, base, known)) {
      return false;
    }
    table.add(from, to, base, known);
    return true;
  }

  /** What BEST is worth if the teller knew the tale; laws may ask how many know it, so all is weighed anew. */
  private int worthIfKnown(int tale, int teller) {
    int was = table.known[tale];
    table.known[tale] = was | 1 << teller;
    if (trial == null) {
      trial = new Plan();
    }
    trial.spoil();
    trial.reckon(table);
    trial.choose(table, false);
    table.known[tale] = was;
    return trial.sums[trial.chosen];
  }

  /** At most ten rows of three numbers: tales told, mentions, claims. */
  private static final class Triples {
    private final int[] first = new int[TALES];
    private final int[] second = new int[TALES];
    private final int[] third = new int[TALES];
    private int size = 0;

    private boolean isFull() {
      return size >= TALES;
    }

    private void add(int a, int b, int c) {
      if (size < TALES) {
        first[size] = a;
        second[size] = b;
        third[size] = c;
        size++;
      }
    }

    private int drop() {
      int was = size;
      size = 0;
      return was;
    }

    private int at(int i, int what) {
      if (i < 0 || i >= size || what < 0 || what > 2) {
        return NONE;
      }
      if (what == 0) {
        return first[i];
      }
      return what == 1 ? second[i] : third[i];
    }

    private void copyFrom(Triples other) {
      System.arraycopy(other.first, 0, first, 0, TALES);
      System.arraycopy(other.second, 0, second, 0, TALES);
      System.arraycopy(other.third, 0, third, 0, TALES);
      size = other.size;
    }
  }

  /** All that an image keeps. */
  private static final class Table {
    private final int[] from = new int[TALES];
    private final int[] to = new int[TALES];
    private final int[] base = new int[TALES];
    private final int[] known = new int[TALES];
    private int tales = 0;
    private final int[] terms = {2, 1, 0};
    private final Law[] laws = new Law[LAWS];
    private int lawCount = 0;
    private int inForce = NONE;
    private final Triples told = new Triples();
    private final Triples mentions = new Triples();
    private final Triples claims = new Triples();

    private static boolean canPut(int what, int value) {
      if (what < 0 || what > 3 || value < 0) {
        return false;
      }
      if (what < 2) {
        return value <= LAST_YEAR;
      }
      return value <= (what == 2 ? MOST_BASE : ALL_KNOW);
    }

    private static boolean canBe(int from, int to, int base, int known) {
      return canPut(0, from) && canPut(1, to) && from <= to && canPut(2, base) && canPut(3, known);
    }

    private void add(int itsFrom, int itsTo, int itsBase, int itsKnown) {
      if (tales < TALES) {
        from[tales] = itsFrom;
        to[tales] = itsTo;
        base[tales] = itsBase;
        known[tales] = itsKnown;
        tales++;
      }
    }

    private boolean has(int tale) {
      return tale >= 0 && tale < tales;
    }

    private boolean seats(int teller) {
      return teller >= 0 && teller < terms[0];
    }

    private int[] column(int what) {
      if (what == 0) {
        return from;
      }
      if (what == 1) {
        return to;
      }
      return what == 2 ? base : known;
    }

    private int all() {
      return (1 << tales) - 1;
    }

    private int toldSet() {
      int bits = 0;
      for (int i = 0; i < told.size; i++) {
        bits |= 1 << told.first[i];
      }
      return bits;
    }

    private int untold() {
      return all() & ~toldSet();
    }

    private int lastYear() {
      return told.size > 0 ? told.second[told.size - 1] : FREE;
    }

    private int lastTeller() {
      return told.size > 0 ? told.third[told.size - 1] : NOBODY;
    }

    private Law lawInForce() {
      return inForce >= 0 && inForce < lawCount ? laws[inForce] : null;
    }

    private void copyFrom(Table other) {
      System.arraycopy(other.from, 0, from, 0, TALES);
      System.arraycopy(other.to, 0, to, 0, TALES);
      System.arraycopy(other.base, 0, base, 0, TALES);
      System.arraycopy(other.known, 0, known, 0, TALES);
      tales = other.tales;
      System.arraycopy(other.terms, 0, terms, 0, terms.length);
      for (int i = 0; i < LAWS; i++) {
        laws[i] = other.laws[i];
      }
      lawCount = other.lawCount;
      inForce = other.inForce;
      told.copyFrom(other.told);
      mentions.copyFrom(other.mentions);
      claims.copyFrom(other.claims);
    }
  }

  /** A law that was read; it never changes, so images may share it. */
  private static final class Law {
    private final int[] kinds;
    private final int[] ends;
    private final int[] steps;
    private final int[] args;

    private Law(int[] kinds, int[] ends, int[] steps, int[] args) {
      this.kinds = kinds;
      this.ends = ends;
      this.steps = steps;
      this.args = args;
    }

    private boolean isOf(int clause, int kind) {
      return clause >= 0 && clause < kinds.length && kinds[clause] == kind;
    }
  }

  /**
   * Reads a text to a law. A clause becomes steps for a stack: its sum (1 for "bars"),
   * then its test (1 without), so that both stand there at the clause's end.
   */
  private static final class Reader {
    private final int[] kinds = new int[BYTES + 1];
    private final int[] values = new int[BYTES + 1];
    private final int[] places = new int[BYTES + 1];
    private int at = 0;
    private final int[] clauseKinds = new int[CLAUSES];
    private final int[] clauseEnds = new int[CLAUSES];
    private int clauses = 0;
    private final int[] steps = new int[STEPS];
    private final int[] args = new int[STEPS];
    private int length = 0;
    private int parts = 0;
    private int faultAt = NONE;

    /** The law, or null, and faultAt tells where. */
    private Law read(int[] tape, int bytes) {
      split(tape, bytes);
      at = 0;
      clauses = 0;
      length = 0;
      parts = 0;
      faultAt = NONE;
      boolean more = true;
      for (int n = 0; n <= CLAUSES && more; n++) {
        clause();
        more = takes(';');
      }
      if (next() != TEXT_END) {
        stop();
      }
      if (faultAt != NONE) {
        return null;
      }
      return new Law(Arrays.copyOf(clauseKinds, clauses), Arrays.copyOf(clauseEnds, clauses),
          Arrays.copyOf(steps, length), Arrays.copyOf(args, length));
    }

    private void split(int[] tape, int bytes) {
      int tokens = 0;
      int from = 0;
      for (int n = 0; n < BYTES && from < bytes; n++) {
        int to = from + 1;
        int sign = tape[from];
        if (isLetter(sign)) {
          to = runEnd(tape, from, bytes, true);
          kinds[tokens] = wordOf(tape, from, to);
        } else if (isDigit(sign)) {
          to = runEnd(tape, from, bytes, false);
          kinds[tokens] = NUMBER;
          values[tokens] = valueOf(tape, from, to);
        } else {
          kinds[tokens] = sign;
        }
        places[tokens] = from;
        if (sign != ' ') {
          tokens++;
        }
        from = to;
      }
      kinds[tokens] = TEXT_END;
      places[tokens] = bytes;
    }

    private static boolean isLetter(int sign) {
      return sign >= 'a' && sign <= 'z';
    }

    private static boolean isDigit(int sign) {
      return sign >= '0' && sign <= '9';
    }

    private static int runEnd(int[] tape, int from, int bytes, boolean letters) {
      int to = from;
      for (int n = 0; n < BYTES && to < bytes; n++) {
        if (!(letters ? isLetter(tape[to]) : isDigit(tape[to]))) {
          break;
        }
        to++;
      }
      return to;
    }

    /** A long row of digits stays just above what a number may be. */
    private static int valueOf(int[] tape, int from, int to) {
      int value = 0;
      for (int i = from; i < to; i++) {
        value = Math.min(value * 10 + tape[i] - '0', MOST_NUMBER + 1);
      }
      return value;
    }

    private static int wordOf(int[] tape, int from, int to) {
      int kind = WORTH;
      int start = 0;
      for (int i = 0; i < WORDS.length(); i++) {
        if (WORDS.charAt(i) == ' ') {
          if (i - start == to - from && isWordAt(tape, from, start, i)) {
            return kind;
          }
          kind++;
          start = i + 1;
        }
      }
      return NO_WORD;
    }

    private static boolean isWordAt(int[] tape, int from, int start, int end) {
      for (int i = start; i < end; i++) {
        if (tape[from + i - start] != WORDS.charAt(i)) {
          return false;
        }
      }
      return true;
    }

    private int next() {
      return at < kinds.length ? kinds[at] : TEXT_END;
    }

    private boolean takes(int kind) {
      if (faultAt != NONE || at >= kinds.length || kinds[at] != kind) {
        return false;
      }
      at++;
      return true;
    }

    /** Only the first token that can't go on is the fault. */
    private void stop() {
      if (faultAt == NONE) {
        faultAt = at < places.length ? places[at] : BYTES;
      }
    }

    private void step(int step, int arg) {
      if (length < STEPS) {
        steps[length] = step;
        args[length] = arg;
        length++;
      }
    }

    /** The step before this place jumps to what comes next. */
    private void land(int jump) {
      if (jump > 0 && jump <= STEPS) {
        args[jump - 1] = length;
      }
    }

    private void clause() {
      int kind = next();
      if (clauses >= CLAUSES || kind < WORTH || kind > BARS) {
        stop();
        return;
      }
      at++;
      if (kind == BARS) {
        step(NUMBER, 1);
      } else {
        sum(0);
      }
      if (takes(IF)) {
        test(0);
      } else {
        step(NUMBER, 1);
      }
      clauseKinds[clauses] = kind;
      clauseEnds[clauses] = length;
      clauses++;
    }

    /** "and" and "or" jump over what stands behind them where that can't matter any more. */
    private void test(int depth) {
      int waitingOr = NONE;
      plain(depth);
      for (int n = 0; n < BYTES && faultAt == NONE; n++) {
        if (takes(AND)) {
          step(AND, 0);
          int jump = length;
          plain(depth);
          land(jump);
        } else if (takes(OR)) {
          land(waitingOr);
          step(OR, 0);
          waitingOr = length;
          plain(depth);
        } else {
          break;
        }
      }
      land(waitingOr);
    }

    private void plain(int depth) {
      boolean turned = false;
      for (int n = 0; n < BYTES && takes(NOT); n++) {
        turned = !turned;
      }
      if (depth < BRACKETS && takes('(')) {
        test(depth + 1);
        if (!takes(')')) {
          stop();
        }
      } else {
        sum(depth);
        int sign = next();
        if (takes('<') || takes('>') || takes('=')) {
          sum(depth);
          step(sign, 0);
        } else {
          stop();
        }
      }
      if (turned) {
        step(NOT, 0);
      }
    }

    /** A "+" or "-" waits till the products behind it are read. */
    private void sum(int depth) {
      int waiting = NONE;
      part(depth);
      for (int n = 0; n < BYTES && faultAt == NONE; n++) {
        int sign = next();
        if (sign == '*' || sign == '/') {
          at++;
          part(depth);
          step(sign, 0);
        } else if (sign == '+' || sign == '-') {
          if (waiting != NONE) {
            step(waiting, 0);
          }
          waiting = sign;
          at++;
          part(depth);
        } else {
          break;
        }
      }
      if (waiting != NONE) {
        step(waiting, 0);
      }
    }

    private void part(int depth) {
      if (depth < BRACKETS && takes('[')) {
        sum(depth + 1);
        if (!takes(']')) {
          stop();
        }
        return;
      }
      int kind = next();
      boolean number = kind == NUMBER && values[at] <= MOST_NUMBER;
      boolean fact = kind >= FIRST_FACT && kind <= LAST_FACT;
      if (parts >= PARTS || faultAt != NONE || !(number || fact)) {
        stop();
        return;
      }
      parts++;
      step(number ? NUMBER : FACT, number ? values[at] : kind - FIRST_FACT);
      at++;
    }
  }

  /** Asks the clauses of a law of one tale. */
  private static final class Judge {
    private final int[] facts = new int[FACTS];
    private final int[] stack = new int[STACK];
    private int height = 0;

    /** The facts stand in the order of the words. */
    private void look(Table table, int tale) {
      int seated = (1 << table.terms[0]) - 1;
      facts[0] = tale;
      facts[1] = table.from[tale];
      facts[2] = table.to[tale];
      facts[3] = table.to[tale] - table.from[tale];
      facts[4] = table.base[tale];
      facts[5] = Integer.bitCount(table.known[tale] & seated);
      facts[6] = table.terms[2];
      facts[TELLER_FACT] = NONE;
    }

    /** What the last clause of the kind that holds tells, or what is so without one. */
    private int lastOf(Law law, int kind, int least, int without) {
      int value = without;
      if (law == null) {
        return value;
      }
      for (int i = 0; i < law.kinds.length; i++) {
        if (law.isOf(i, kind) && holds(law, i)) {
          value = Math.max(least, Math.min(stack[0], MOST_WORTH));
        }
      }
      return value;
    }

    private boolean isBarred(Law law, int teller) {
      if (law == null) {
        return false;
      }
      facts[TELLER_FACT] = teller;
      for (int i = 0; i < law.kinds.length; i++) {
        if (law.isOf(i, BARS) && holds(law, i)) {
          return true;
        }
      }
      return false;
    }

    /** Whether a clause holds; its sum is at the stack's foot then. */
    private boolean holds(Law law, int clause) {
      int at = clause > 0 ? law.ends[clause - 1] : 0;
      int end = Math.min(law.ends[clause], law.steps.length);
      height = 0;
      for (int n = 0; n < STEPS && at < end; n++) {
        int step = law.steps[at];
        int arg = law.args[at];
        at++;
        if (step == NUMBER) {
          push(arg);
        } else if (step == FACT) {
          push(arg >= 0 && arg < FACTS ? facts[arg] : 0);
        } else if (step == AND || step == OR) {
          boolean settled = (top() != 0) == (step == OR);
          if (settled) {
            at = Math.max(at, arg);
          } else {
            height--;
          }
        } else if (step == NOT) {
          int was = top();
          height--;
          push(1 - was);
        } else if (!joins(step)) {
          return false;
        }
      }
      return height == 2 && stack[1] != 0;
    }

    private void push(int value) {
      if (height >= 0 && height < STACK) {
        stack[height] = value;
        height++;
      }
    }

    private int top() {
      return height > 0 && height <= STACK ? stack[height - 1] : 0;
    }

    /** Joins the two numbers on top; false if that is broken. */
    private boolean joins(int sign) {
      if (height < 2 || height > STACK) {
        return false;
      }
      long a = stack[height - 2];
      long b = stack[height - 1];
      if (sign == '/' && b == 0) {
        return false;
      }
      long value = joined(sign, a, b);
      if (value > BROKEN_BEYOND || value < -BROKEN_BEYOND) {
        return false;
      }
      height -= 2;
      push((int) value);
      return true;
    }

    private static long joined(int sign, long a, long b) {
      switch (sign) {
        case '+': return a + b;
        case '-': return a - b;
        case '*': return a * b;
        case '/': return b != 0 ? a / b : 0;
        case '<': return a < b ? 1 : 0;
        case '>': return a > b ? 1 : 0;
        default: return a == b ? 1 : 0;
      }
    }
  }

  /**
   * What tales are worth, and what can be told behind what. Of every set it knows from
   * which year on it can be told: a later year ahead never hinders, so that one year says all.
   */
  private static final class Plan {
    private final Judge judge = new Judge();
    private final int[] from = new int[TALES];
    private final int[] to = new int[TALES];
    private final int[] worth = new int[TALES];
    private final int[] gap = new int[TALES];
    private final int[] able = new int[TALES];
    private int tales = 0;
    private boolean twice = true;
    private boolean weighed = false;
    private boolean reckoned = false;
    private final int[] sums = new int[SETS];
    /** The earliest year of the one ahead by which a set can be told. */
    private final int[] least = new int[SETS];
    /** Who begins it then, and the earliest year if somebody else has to begin. */
    private final int[] who = new int[SETS];
    private final int[] other = new int[SETS];
    private final int[] ends = new int[TALES];
    private int chosen = 0;
    private int ways = 0;
    /** How many rows of a season were made from what is reckoned. */
    private int seasonRows = 0;

    private void spoil() {
      weighed = false;
      reckoned = false;
      seasonRows = 0;
    }

    private void weigh(Table table) {
      if (weighed) {
        return;
      }
      weighed = true;
      tales = table.tales;
      twice = table.terms[1] == 1;
      Law law = table.lawInForce();
      for (int tale = 0; tale < tales; tale++) {
        from[tale] = table.from[tale];
        to[tale] = table.to[tale];
        judge.look(table, tale);
        worth[tale] = judge.lastOf(law, WORTH, 0, table.base[tale]);
        gap[tale] = judge.lastOf(law, GAP, 1, 1);
        able[tale] = 0;
        for (int teller = 0; teller < table.terms[0]; teller++) {
          if ((table.known[tale] >> teller & 1) != 0 && !judge.isBarred(law, teller)) {
            able[tale] |= 1 << teller;
          }
        }
      }
    }

    private void reckon(Table table) {
      if (reckoned) {
        return;
      }
      weigh(table);
      reckoned = true;
      sums[0] = 0;
      least[0] = 0;
      who[0] = NONE;
      other[0] = 0;
      for (int set = 1; set < 1 << tales; set++) {
        reckonSet(set);
      }
    }

    private void reckonSet(int set) {
      int low = NEVER;
      int lowTeller = NONE;
      int next = NEVER;
      int sum = 0;
      for (int tale = 0; tale < tales; tale++) {
        if ((set >> tale & 1) == 0) {
          continue;
        }
        sum += worth[tale];
        int rest = set & ~(1 << tale);
        // If one may tell twice running, who tells never matters: the lowest stands for all.
        int tellers = twice ? able[tale] & -able[tale] : able[tale];
        for (int teller = 0; teller < TELLERS && tellers >> teller != 0; teller++) {
          if ((tellers >> teller & 1) == 0) {
            continue;
          }
          int year = yearAhead(tale, yearNeeded(rest, teller));
          if (teller == lowTeller) {
            low = Math.min(low, year);
          } else if (year < low) {
            next = low;
            low = year;
            lowTeller = teller;
          } else if (year < next) {
            next = year;
          }
        }
      }
      sums[set] = sum;
      least[set] = low;
      who[set] = lowTeller;
      other[set] = twice ? low : next;
    }

    private int yearNeeded(int set, int tellerAhead) {
      return who[set] == tellerAhead ? other[set] : least[set];
    }

    /** The earliest year ahead by which the tale can be told in the year needed behind it, or later. */
    private int yearAhead(int tale, int needed) {
      int year = Math.max(from[tale], needed);
      return year > to[tale] ? NEVER : year + gap[tale];
    }

    private boolean fits(int set, int year, int teller) {
      return set >= 0 && set < 1 << tales && yearNeeded(set, teller) <= year;
    }

    private int yearOf(int tale, int ahead) {
      int year = Math.min(to[tale], ahead - gap[tale]);
      return year < from[tale] ? NONE : year;
    }

    /** Who can tell the tale, if one of those ahead (as bits) told the one ahead. */
    private int followers(int tale, int ahead) {
      if (twice || Integer.bitCount(ahead) > 1) {
        return able[tale];
      }
      return able[tale] & ~ahead;
    }

    private void choose(Table table, boolean longest) {
      int told = table.toldSet();
      int year = table.lastYear();
      int teller = table.lastTeller();
      int top = NONE;
      for (int set = 0; set < 1 << tales; set++) {
        if ((set & told) != 0 || !fits(set, year, teller)) {
          continue;
        }
        int value = sums[set] + (longest ? Integer.bitCount(set) * TALE_RANK : 0);
        if (value > top) {
          top = value;
          chosen = set;
          ways = 1;
        } else if (value == top) {
          ways++;
        }
      }
    }

    /** The first row of tales of a set that goes on, then the first row of tellers for it. */
    private void lineUp(Table table, int set, Triples line) {
      int rest = set;
      int year = table.lastYear();
      int ahead = 1 << table.lastTeller();
      line.drop();
      for (int n = 0; n < tales && rest != 0; n++) {
        int tale = firstTale(rest, year, ahead);
        if (tale == NONE) {
          return;
        }
        year = yearOf(tale, year);
        ahead = followers(tale, ahead);
        rest &= ~(1 << tale);
        line.add(tale, year, NONE);
      }
      nameTellers(line, table.lastTeller());
    }

    private int firstTale(int rest, int year, int ahead) {
      for (int tale = 0; tale < tales; tale++) {
        if ((rest >> tale & 1) != 0 && leadsOn(tale, rest & ~(1 << tale), year, ahead)) {
          return tale;
        }
      }
      return NONE;
    }

    private boolean leadsOn(int tale, int rest, int yearAhead, int ahead) {
      int year = yearOf(tale, yearAhead);
      int tellers = followers(tale, ahead);
      for (int teller = 0; teller < TELLERS; teller++) {
        if (year != NONE && (tellers >> teller & 1) != 0 && fits(rest, year, teller)) {
          return true;
        }
      }
      return false;
    }

    private void nameTellers(Triples line, int tellerAhead) {
      int behind = 0;
      for (int i = line.size - 1; i >= 0; i--) {
        boolean last = i == line.size - 1;
        behind = last ? able[line.first[i]] : leaders(line.first[i], behind);
        ends[i] = behind;
      }
      int ahead = tellerAhead;
      for (int i = 0; i < line.size; i++) {
        int tellers = twice ? ends[i] : ends[i] & ~(1 << ahead);
        ahead = lowestBit(tellers);
        line.third[i] = ahead;
      }
    }

    /** Who can tell the tale so that one of those behind (as bits) can tell the next. */
    private int leaders(int tale, int behind) {
      if (twice || Integer.bitCount(behind) > 1) {
        return able[tale];
      }
      return able[tale] & ~behind;
    }

    private static int lowestBit(int bits) {
      for (int i = 0; i < TELLERS; i++) {
        if ((bits >> i & 1) != 0) {
          return i;
        }
      }
      return NOBODY;
    }

    /** In how many rows the tales can be told; the depth is how many were told already. */
    private int rows(int rest, int yearAhead, int ahead, int depth) {
      if (rest == 0) {
        return 1;
      }
      int found = 0;
      for (int tale = 0; tale < tales && depth < SMALL_SET; tale++) {
        if ((rest >> tale & 1) != 0) {
          int year = yearOf(tale, yearAhead);
          int tellers = followers(tale, ahead);
          if (year != NONE && tellers != 0) {
            found += rows(rest & ~(1 << tale), year, tellers, depth + 1);
          }
        }
      }
      return found;
    }

    /** The lowest tale by which the teller, who is next in a duel, wins; the depth is as for rows. */
    private int winningTale(int rest, int yearAhead, int teller, int depth) {
      for (int tale = 0; tale < tales && depth < SMALL_SET; tale++) {
        if ((rest >> tale & 1) != 0 && (able[tale] >> teller & 1) != 0) {
          int year = yearOf(tale, yearAhead);
          if (year != NONE && winningTale(rest & ~(1 << tale), year, 1 - teller, depth + 1) == NONE) {
            return tale;
          }
        }
      }
      return NONE;
    }

    private int firstWrong(Triples claims, int leftOut) {
      int told = 0;
      int ahead = FREE;
      int teller = NOBODY;
      for (int i = 0; i < claims.size; i++) {
        if (i == leftOut) {
          continue;
        }
        int tale = claims.first[i];
        int year = claims.second[i];
        boolean inTime = year >= from[tale] && year <= to[tale] && year <= ahead - gap[tale];
        boolean byWhom = (followers(tale, 1 << teller) >> claims.third[i] & 1) != 0;
        if (!inTime || !byWhom || (told >> tale & 1) != 0) {
          return i;
        }
        told |= 1 << tale;
        ahead = year;
        teller = claims.third[i];
      }
      return NONE;
    }

    /** Lists who can tell which tale next, as tale times TELLERS and teller; how many there are. */
    private int listChoices(int untold, int year, int teller, int[] choices) {
      int size = 0;
      for (int tale = 0; tale < tales; tale++) {
        if ((untold >> tale & 1) == 0 || yearOf(tale, year) == NONE) {
          continue;
        }
        int tellers = followers(tale, 1 << teller);
        for (int next = 0; next < TELLERS; next++) {
          if ((tellers >> next & 1) != 0 && size < choices.length) {
            choices[size] = tale * TELLERS + next;
            size++;
          }
        }
      }
      return size;
    }
  }

  /** Evenings without a tale told twice: rows tell, by how many evenings, what a set is worth at most. */
  private static final class Season {
    private final int[][] rows = new int[EVENINGS][SETS];

    private void lay(Plan plan, int upTo) {
      for (int evenings = 1; evenings < EVENINGS && evenings <= upTo; evenings++) {
        if (evenings > plan.seasonRows) {
          for (int left = 0; left < 1 << plan.tales; left++) {
            rows[evenings][left] = most(plan, evenings, left);
          }
          plan.seasonRows = evenings;
        }
      }
    }

    /** The most worth of so many evenings with the tales that are left; the row of one evening less stands. */
    private int most(Plan plan, int evenings, int left) {
      int top = rows[evenings - 1][left];
      int set = left;
      for (int n = 0; n < SETS && top < plan.sums[left]; n++) {
        if (plan.least[set] <= FREE) {
          top = Math.max(top, plan.sums[set] + rows[evenings - 1][left & ~set]);
        }
        if (set == 0) {
          break;
        }
        set = (set - 1) & left;
      }
      return top;
    }

    private int lowest(Plan plan, int evenings, int left) {
      int top = most(plan, evenings, left);
      for (int set = 0; set <= left; set++) {
        if ((set & ~left) == 0 && plan.least[set] <= FREE
            && plan.sums[set] + rows[evenings - 1][left & ~set] == top) {
          return set;
        }
      }
      return 0;
    }
  }

  /** Dating by mentions. */
  private static final class Dates {
    private final int[] early = new int[TALES];
    private final int[] late = new int[TALES];
    private int leftOut = 0;
    private int ways = 0;

    /** Whether years agree by the mentions that are kept (bits); the earliest ones stand then. */
    private boolean agree(Table table, int keptBits) {
      Triples mentions = table.mentions;
      System.arraycopy(table.from, 0, early, 0, TALES);
      boolean moved = true;
      // What still moves after a round for each tale goes round in a circle.
      for (int round = 0; round <= table.tales && moved; round++) {
        moved = false;
        for (int i = 0; i < mentions.size; i++) {
          int younger = mentions.second[i];
          int year = early[mentions.first[i]] + mentions.third[i];
          if ((keptBits >> i & 1) != 0 && year > early[younger]) {
            if (year > table.to[younger]) {
              return false;
            }
            early[younger] = year;
            moved = true;
          }
        }
      }
      return !moved;
    }

    /** The latest years, where years agree by all mentions. */
    private void reckonLate(Table table) {
      Triples mentions = table.mentions;
      System.arraycopy(table.to, 0, late, 0, TALES);
      boolean moved = true;
      for (int round = 0; round <= table.tales && moved; round++) {
        moved = false;
        for (int i = 0; i < mentions.size; i++) {
          int older = mentions.first[i];
          int year = late[mentions.second[i]] - mentions.third[i];
          if (year < late[older]) {
            late[older] = year;
            moved = true;
          }
        }
      }
    }

    private void leaveOut(Table table) {
      int all = (1 << table.mentions.size) - 1;
      int fewest = TALES + 1;
      for (int out = 0; out <= all; out++) {
        int size = Integer.bitCount(out);
        if (size > fewest || !agree(table, all & ~out)) {
          continue;
        }
        if (size < fewest) {
          fewest = size;
          leftOut = out;
          ways = 1;
        } else {
          ways++;
        }
      }
    }
  }
}
