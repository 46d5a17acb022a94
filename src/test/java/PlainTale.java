import java.util.ArrayList;
import java.util.HashMap;
import java.util.HashSet;
import java.util.List;
import java.util.Map;
import java.util.Set;

/**
 * The document once more, by trying everything: slow, with the Java library, written without
 * a look at OlderTale, so that RandomRunsTest can hold the two against each other.
 */
public final class PlainTale {
  public static final int NONE = -1;

  /** from, to, base, known. */
  private List<int[]> tales = new ArrayList<>();
  private int[] terms = {2, 1, 0};
  private List<PlainLaw> laws = new ArrayList<>();
  private int inForce = NONE;
  /** tale, year, teller. */
  private List<int[]> told = new ArrayList<>();
  /** older, younger, years. */
  private List<int[]> mentions = new ArrayList<>();
  /** tale, year, teller. */
  private List<int[]> claims = new ArrayList<>();
  private List<int[]> drawn = new ArrayList<>();
  private final List<Integer> tape = new ArrayList<>();
  private final PlainTale[] images = new PlainTale[2];
  private final Map<Integer, Integer> refused = new HashMap<>();
  private int mumbled = 0;
  private int fault = NONE;
  private int status = 0;

  public PlainTale() {
  }

  private int no(int code) {
    status = code;
    refused.merge(code, 1, Integer::sum);
    return code;
  }

  private int yes(int answer) {
    status = 0;
    return answer;
  }

  private static boolean in(int value, int low, int high) {
    return value >= low && value <= high;
  }

  private boolean isTale(int tale) {
    return in(tale, 0, tales.size() - 1);
  }

  private boolean isTeller(int teller) {
    return in(teller, 0, terms[0] - 1);
  }

  private static boolean good(int from, int to, int base, int known) {
    return in(from, 0, 2000) && in(to, 0, 2000) && from <= to && in(base, 0, 99) && in(known, 0, 15);
  }

  public int tale(int from, int to, int base, int known) {
    if (!good(from, to, base, known)) return no(-1);
    if (tales.size() == 10) return no(-5);
    tales.add(new int[] {from, to, base, known});
    return yes(tales.size() - 1);
  }

  public int put(int tale, int what, int value) {
    if (!in(what, 0, 3)) return no(-1);
    int[] tops = {2000, 2000, 99, 15};
    if (!in(value, 0, tops[what])) return no(-1);
    if (!isTale(tale)) return no(-2);
    int[] now = tales.get(tale).clone();
    int was = now[what];
    now[what] = value;
    if (now[0] > now[1]) return no(-1);
    tales.set(tale, now);
    return yes(was);
  }

  private int[] facts(int tale, int teller) {
    int[] t = tales.get(tale);
    int known = 0;
    for (int i = 0; i < terms[0]; i++) known += t[3] >> i & 1;
    return new int[] {tale, t[0], t[1], t[1] - t[0], t[2], known, terms[2], teller};
  }

  private PlainLaw law0() {
    return inForce == NONE ? new PlainLaw() : laws.get(inForce);
  }

  private int worthOf(int tale) {
    Integer told = law0().last("worth", facts(tale, -1));
    return told == null ? tales.get(tale)[2] : Math.max(0, Math.min(999, told));
  }

  private int gapOf(int tale) {
    Integer told = law0().last("gap", facts(tale, -1));
    return told == null ? 1 : Math.max(1, Math.min(999, told));
  }

  private boolean canTell(int tale, int teller) {
    return isTeller(teller) && (tales.get(tale)[3] >> teller & 1) == 1
        && law0().last("bars", facts(tale, teller)) == null;
  }

  public int of(int tale, int what) {
    if (!isTale(tale) || !in(what, 0, 5)) return NONE;
    if (what == 4) return worthOf(tale);
    if (what == 5) return gapOf(tale);
    return tales.get(tale)[what];
  }

  public int can(int tale, int teller) {
    if (!isTale(tale) || !isTeller(teller)) return NONE;
    return canTell(tale, teller) ? 1 : 0;
  }

  public int terms(int what, int value) {
    int[][] spans = {{1, 4}, {0, 1}, {0, 9}};
    if (!in(what, 0, 2) || !in(value, spans[what][0], spans[what][1])) return no(-1);
    int was = terms[what];
    terms[what] = value;
    return yes(was);
  }

  public int feed(int a, int b, int c, int d, int e) {
    if (tape.size() > 380) return NONE;
    for (int number : new int[] {a, b, c, d, e}) {
      tape.add(number >>> 24);
      tape.add(number >>> 16 & 255);
      tape.add(number >>> 8 & 255);
      tape.add(number & 255);
    }
    return tape.size();
  }

  public int end(int n) {
    if (!in(n, 0, tape.size())) return NONE;
    while (tape.size() > n) tape.remove(tape.size() - 1);
    return n;
  }

  public int row() {
    if (tape.isEmpty()) return no(-6);
    int came = 0;
    mumbled = 0;
    while (!tape.isEmpty()) {
      int[] b = new int[6];
      int got = 0;
      while (got < 6 && !tape.isEmpty()) b[got++] = tape.remove(0);
      int from = b[0] << 8 | b[1];
      int to = b[2] << 8 | b[3];
      if (got == 6 && good(from, to, b[4], b[5]) && tales.size() < 10) {
        tales.add(new int[] {from, to, b[4], b[5]});
        came++;
      } else {
        mumbled++;
      }
    }
    return yes(came);
  }

  public int mumbled() {
    return mumbled;
  }

  public int law() {
    StringBuilder text = new StringBuilder();
    for (int b : tape) text.append((char) b);
    tape.clear();
    if (laws.size() == 6) return no(-5);
    PlainLaw read = new PlainLaw();
    fault = read.read(text.toString());
    if (fault != NONE) return no(-6);
    laws.add(read);
    return yes(laws.size() - 1);
  }

  public int fault() {
    return fault;
  }

  public int force(int law) {
    if (law != NONE && !in(law, 0, laws.size() - 1)) return no(-2);
    int was = inForce;
    inForce = law;
    return yes(was);
  }

  /** The year in which the teller tells the tale behind a row, or null if he can't. */
  private Integer next(List<int[]> row, int tale, int teller) {
    if (!canTell(tale, teller)) return null;
    for (int[] t : row) if (t[0] == tale) return null;
    int[] t = tales.get(tale);
    int year = t[1];
    if (!row.isEmpty()) {
      int[] last = row.get(row.size() - 1);
      if (terms[1] == 0 && last[2] == teller) return null;
      while (year > last[1] - gapOf(tale)) year--;
    }
    return year >= t[0] ? year : null;
  }

  public int tell(int tale, int teller) {
    if (!isTeller(teller)) return no(-1);
    if (!isTale(tale)) return no(-2);
    Integer year = next(told, tale, teller);
    if (year == null) return no(-3);
    told.add(new int[] {tale, year, teller});
    return yes(year);
  }

  public int hush() {
    int was = told.size();
    told = new ArrayList<>();
    return was;
  }

  private static int pick(List<int[]> rows, int i, int what) {
    return in(i, 0, rows.size() - 1) && in(what, 0, 2) ? rows.get(i)[what] : NONE;
  }

  public int heard(int i, int what) {
    return pick(told, i, what);
  }

  public int open() {
    int bits = 0;
    for (int t = 0; t < tales.size(); t++) {
      for (int p = 0; p < 4; p++) {
        if (next(told, t, p) != null) bits |= 1 << t;
      }
    }
    return bits;
  }

  private int toldBits() {
    int bits = 0;
    for (int[] t : told) bits |= 1 << t[0];
    return bits;
  }

  private boolean free(int set) {
    return (set & ~((1 << tales.size()) - 1)) == 0 && (set & toldBits()) == 0;
  }

  /** All sets that can be told behind a row: all states (set, year, teller) are walked. */
  private Set<Integer> reach(List<int[]> row) {
    int n = tales.size();
    int[] gaps = new int[n];
    boolean[][] can = new boolean[n][4];
    for (int t = 0; t < n; t++) {
      gaps[t] = gapOf(t);
      for (int p = 0; p < 4; p++) can[t][p] = canTell(t, p);
    }
    int used = 0;
    for (int[] t : row) used |= 1 << t[0];
    int[] start = row.isEmpty() ? new int[] {0, 99999, 9} : new int[] {0, row.get(row.size() - 1)[1], row.get(row.size() - 1)[2]};
    Set<Long> seen = new HashSet<>();
    Set<Integer> sets = new HashSet<>();
    List<int[]> todo = new ArrayList<>();
    todo.add(start);
    while (!todo.isEmpty()) {
      int[] s = todo.remove(todo.size() - 1);
      sets.add(s[0]);
      for (int t = 0; t < n; t++) {
        if (((s[0] | used) >> t & 1) == 1) continue;
        int year = Math.min(tales.get(t)[1], s[1] - gaps[t]);
        if (year < tales.get(t)[0]) continue;
        for (int p = 0; p < 4; p++) {
          if (!can[t][p] || (terms[1] == 0 && p == s[2])) continue;
          int[] to = {s[0] | 1 << t, year, p};
          if (seen.add(to[0] * 100000L + to[1] * 10L + to[2])) todo.add(to);
        }
      }
    }
    return sets;
  }

  public int goes(int set) {
    if (!free(set)) return NONE;
    return reach(told).contains(set) ? 1 : 0;
  }

  private int worthOfSet(int set) {
    int sum = 0;
    for (int t = 0; t < tales.size(); t++) if ((set >> t & 1) == 1) sum += worthOf(t);
    return sum;
  }

  public int best(int by, int what) {
    if (!in(by, 0, 1) || !in(what, 0, 3)) return NONE;
    int[] worths = new int[tales.size()];
    for (int t = 0; t < worths.length; t++) worths[t] = worthOf(t);
    List<int[]> all = new ArrayList<>();
    for (int set : reach(told)) {
      int sum = 0;
      for (int t = 0; t < worths.length; t++) sum += (set >> t & 1) * worths[t];
      all.add(new int[] {by == 1 ? Integer.bitCount(set) : 0, sum, set});
    }
    all.sort((a, b) -> a[0] != b[0] ? b[0] - a[0] : a[1] != b[1] ? b[1] - a[1] : a[2] - b[2]);
    int[] top = all.get(0);
    int alike = 0;
    for (int[] a : all) if (a[0] == top[0] && a[1] == top[1]) alike++;
    return what == 0 ? top[1] : what == 1 ? Integer.bitCount(top[2]) : what == 2 ? top[2] : alike;
  }

  /** The years of a row of tales behind what was told, or null. */
  private List<Integer> yearsOf(List<Integer> row) {
    List<Integer> years = new ArrayList<>();
    int ahead = told.isEmpty() ? 99999 : told.get(told.size() - 1)[1];
    for (int t : row) {
      int year = Math.min(tales.get(t)[1], ahead - gapOf(t));
      if (year < tales.get(t)[0]) return null;
      years.add(year);
      ahead = year;
    }
    return years;
  }

  /** The first row of tellers for a row of tales, or null. */
  private List<Integer> tellersOf(List<Integer> row, int at, int ahead) {
    if (at == row.size()) return new ArrayList<>();
    for (int p = 0; p < 4; p++) {
      if (!canTell(row.get(at), p) || (terms[1] == 0 && p == ahead)) continue;
      List<Integer> rest = tellersOf(row, at + 1, p);
      if (rest != null) {
        rest.add(0, p);
        return rest;
      }
    }
    return null;
  }

  private int lastTeller() {
    return told.isEmpty() ? 9 : told.get(told.size() - 1)[2];
  }

  /** All rows of a set that can be told, first rows first; only the first if just one is asked for. */
  private void rowsOf(int rest, List<Integer> row, List<List<Integer>> found, boolean one) {
    if (one && !found.isEmpty()) return;
    if (yearsOf(row) == null || tellersOf(row, 0, lastTeller()) == null) return;
    if (rest == 0) {
      found.add(new ArrayList<>(row));
      return;
    }
    for (int t = 0; t < tales.size(); t++) {
      if ((rest >> t & 1) == 0) continue;
      row.add(t);
      rowsOf(rest & ~(1 << t), row, found, one);
      row.remove(row.size() - 1);
    }
  }

  public int order(int set, int i, int what) {
    if (goes(set) != 1 || !in(what, 0, 2)) return NONE;
    List<List<Integer>> found = new ArrayList<>();
    rowsOf(set, new ArrayList<>(), found, true);
    List<Integer> row = found.get(0);
    if (!in(i, 0, row.size() - 1)) return NONE;
    return what == 0 ? row.get(i) : what == 1 ? yearsOf(row).get(i) : tellersOf(row, 0, lastTeller()).get(i);
  }

  public int orders(int set) {
    if (!free(set) || Integer.bitCount(set) > 7) return NONE;
    List<List<Integer>> found = new ArrayList<>();
    rowsOf(set, new ArrayList<>(), found, false);
    return found.size();
  }

  /** Whether who is next wins behind a row. */
  private boolean wins(List<int[]> row, int teller, boolean[][] can, int[] gaps) {
    for (int t = 0; t < tales.size(); t++) {
      if (duelTale(row, t, teller, can, gaps)) return true;
    }
    return false;
  }

  private boolean duelTale(List<int[]> row, int t, int teller, boolean[][] can, int[] gaps) {
    if (!can[t][teller]) return false;
    for (int[] r : row) if (r[0] == t) return false;
    int year = tales.get(t)[1];
    if (!row.isEmpty()) year = Math.min(year, row.get(row.size() - 1)[1] - gaps[t]);
    if (year < tales.get(t)[0]) return false;
    row.add(new int[] {t, year, teller});
    boolean other = wins(row, 1 - teller, can, gaps);
    row.remove(row.size() - 1);
    return !other;
  }

  public int duel(int what) {
    if (!in(what, 0, 1) || tales.size() - told.size() > 7) return NONE;
    int n = tales.size();
    int[] gaps = new int[n];
    boolean[][] can = new boolean[n][2];
    for (int t = 0; t < n; t++) {
      gaps[t] = gapOf(t);
      for (int p = 0; p < 2; p++) can[t][p] = canTell(t, p);
    }
    int next = lastTeller() == 0 ? 1 : 0;
    List<int[]> row = new ArrayList<>(told);
    for (int t = 0; t < n; t++) {
      if (duelTale(row, t, next, can, gaps)) return what == 0 ? next : t;
    }
    return what == 0 ? 1 - next : NONE;
  }

  /** Every tale to every evening or none: which split is the best, then the first. */
  public int winter(int evenings, int i) {
    if (!in(evenings, 1, 4) || !in(i, -1, evenings - 1)) return NONE;
    Set<Integer> sets = reach(new ArrayList<>());
    int[] worths = new int[tales.size()];
    for (int t = 0; t < worths.length; t++) worths[t] = worthOf(t);
    long splits = 1;
    for (int t = 0; t < tales.size(); t++) splits *= evenings + 1;
    int top = -1;
    int[] first = null;
    for (long split = 0; split < splits; split++) {
      int[] put = new int[evenings + 1];
      long s = split;
      int worth = 0;
      for (int t = 0; t < worths.length; t++) {
        int evening = (int) (s % (evenings + 1));
        put[evening] |= 1 << t;
        if (evening > 0) worth += worths[t];
        s /= evenings + 1;
      }
      boolean fits = true;
      for (int k = 1; k <= evenings; k++) fits &= sets.contains(put[k]);
      if (!fits || worth < top) continue;
      if (worth > top || before(put, first)) first = put;
      top = worth;
    }
    return i == NONE ? top : first[i + 1];
  }

  private static boolean before(int[] a, int[] b) {
    for (int k = 1; k < a.length; k++) if (a[k] != b[k]) return a[k] < b[k];
    return false;
  }

  public int learn(int teller, int what) {
    if (!isTeller(teller) || !in(what, 0, 1)) return NONE;
    int top = NONE;
    int lesson = NONE;
    for (int t = 0; t < tales.size(); t++) {
      int[] was = tales.get(t);
      if ((was[3] >> teller & 1) == 1) continue;
      tales.set(t, new int[] {was[0], was[1], was[2], was[3] + (1 << teller)});
      int worth = best(0, 0);
      tales.set(t, was);
      if (worth > top) {
        top = worth;
        lesson = t;
      }
    }
    return what == 0 ? lesson : top;
  }

  public int mention(int older, int younger, int years) {
    if (!in(years, 0, 500)) return no(-1);
    if (!isTale(older) || !isTale(younger)) return no(-2);
    if (older == younger) return no(-3);
    if (mentions.size() == 10) return no(-5);
    mentions.add(new int[] {older, younger, years});
    return yes(mentions.size());
  }

  public int forget() {
    int was = mentions.size();
    mentions = new ArrayList<>();
    return was;
  }

  /** The longest ways between all tales and year 0 (the last place), or null if one is a ring. */
  private long[][] ways(int without) {
    int n = tales.size();
    long never = -1000000000L;
    long[][] way = new long[n + 1][n + 1];
    for (long[] w : way) java.util.Arrays.fill(w, never);
    for (int t = 0; t < n; t++) {
      way[n][t] = tales.get(t)[0];
      way[t][n] = -tales.get(t)[1];
    }
    for (int m = 0; m < mentions.size(); m++) {
      int[] r = mentions.get(m);
      if ((without >> m & 1) == 0) way[r[0]][r[1]] = Math.max(way[r[0]][r[1]], r[2]);
    }
    for (int k = 0; k <= n; k++) {
      for (int a = 0; a <= n; a++) {
        for (int b = 0; b <= n; b++) {
          if (way[a][k] > never && way[k][b] > never) way[a][b] = Math.max(way[a][b], way[a][k] + way[k][b]);
        }
      }
    }
    for (int a = 0; a <= n; a++) if (way[a][a] > 0) return null;
    return way;
  }

  public int dated(int tale, int what) {
    if (!isTale(tale) || !in(what, 0, 1)) return NONE;
    long[][] way = ways(0);
    if (way == null) return NONE;
    return (int) (what == 0 ? way[tales.size()][tale] : -way[tale][tales.size()]);
  }

  public int doubt(int what) {
    if (!in(what, 0, 2)) return NONE;
    for (int size = 0; size <= mentions.size(); size++) {
      int lowest = NONE;
      int found = 0;
      for (int out = 0; out < 1 << mentions.size(); out++) {
        if (Integer.bitCount(out) != size || ways(out) == null) continue;
        if (lowest == NONE) lowest = out;
        found++;
      }
      if (found > 0) return what == 0 ? size : what == 1 ? lowest : found;
    }
    throw new IllegalStateException();
  }

  public int claim(int tale, int year, int teller) {
    if (!in(year, 0, 2000) || !in(teller, 0, 3)) return no(-1);
    if (!isTale(tale)) return no(-2);
    if (claims.size() == 10) return no(-5);
    claims.add(new int[] {tale, year, teller});
    return yes(claims.size());
  }

  public int clear() {
    int was = claims.size();
    claims = new ArrayList<>();
    return was;
  }

  private boolean isRight(List<int[]> row, int i) {
    int[] c = row.get(i);
    int[] t = tales.get(c[0]);
    if (!canTell(c[0], c[2]) || c[1] < t[0] || c[1] > t[1]) return false;
    for (int k = 0; k < i; k++) if (row.get(k)[0] == c[0]) return false;
    if (i == 0) return true;
    int[] ahead = row.get(i - 1);
    return (terms[1] == 1 || ahead[2] != c[2]) && ahead[1] - c[1] >= gapOf(c[0]);
  }

  private int firstWrong(List<int[]> row) {
    for (int i = 0; i < row.size(); i++) if (!isRight(row, i)) return i;
    return NONE;
  }

  public int wrong() {
    return firstWrong(claims);
  }

  public int liars() {
    int bits = 0;
    for (int i = 0; i < claims.size(); i++) {
      List<int[]> rest = new ArrayList<>(claims);
      rest.remove(i);
      if (firstWrong(rest) == NONE) bits |= 1 << i;
    }
    return bits;
  }

  public int draw(int seed) {
    if (!in(seed, 0, 1000000)) return no(-1);
    long s = seed;
    List<int[]> row = new ArrayList<>(told);
    drawn = new ArrayList<>();
    while (true) {
      List<int[]> all = new ArrayList<>();
      for (int t = 0; t < tales.size(); t++) {
        for (int p = 0; p < 4; p++) {
          Integer year = next(row, t, p);
          if (year != null) all.add(new int[] {t, year, p});
        }
      }
      if (all.isEmpty()) return yes(drawn.size());
      s = (s * 1103 + 12345) % 1000003;
      int[] it = all.get((int) (s % all.size()));
      row.add(it);
      drawn.add(it);
    }
  }

  public int drawn(int i, int what) {
    return pick(drawn, i, what);
  }

  private void keep(PlainTale from) {
    tales = new ArrayList<>(from.tales);
    terms = from.terms.clone();
    laws = new ArrayList<>(from.laws);
    inForce = from.inForce;
    told = new ArrayList<>(from.told);
    mentions = new ArrayList<>(from.mentions);
    claims = new ArrayList<>(from.claims);
  }

  public int image(int k) {
    if (!in(k, 0, 1)) return no(-1);
    images[k] = new PlainTale();
    images[k].keep(this);
    return yes(0);
  }

  public int back(int k) {
    if (!in(k, 0, 1)) return no(-1);
    if (images[k] == null) return no(-2);
    keep(images[k]);
    return yes(0);
  }

  public int count(int what) {
    int[] codes = {-1, -2, -3, -5, -6};
    if (in(what, 6, 10)) return refused.getOrDefault(codes[what - 6], 0);
    if (in(what, 12, 14)) return terms[what - 12];
    switch (what) {
      case 0: return tales.size();
      case 1: return laws.size();
      case 2: return told.size();
      case 3: return mentions.size();
      case 4: return claims.size();
      case 5: return tape.size();
      case 11: return inForce;
      default: return NONE;
    }
  }

  public int status() {
    return status;
  }

  /** For the random runs: whether winter by trying all takes too long. */
  boolean isLongWinter(int evenings) {
    return Math.pow(Math.max(1, Math.min(evenings, 4)) + 1, tales.size()) > 70000;
  }
}
