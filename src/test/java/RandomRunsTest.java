import java.lang.reflect.Method;
import java.util.ArrayList;
import java.util.HashMap;
import java.util.List;
import java.util.Map;
import java.util.Random;
import java.util.TreeMap;

/** Random runs of calls: OlderTale must answer as PlainTale does. The seeds are fixed. */
public final class RandomRunsTest {
  private static final String[] NAMES = {
    "tale", "tale", "tale", "tale", "put", "put", "put", "of", "of", "can", "terms", "feed", "end", "row",
    "mumbled", "law", "LAW", "LAW", "ROW", "fault", "force", "force", "tell", "tell", "tell", "hush", "heard", "open",
    "goes", "goes", "best", "best", "order", "order", "order", "orders", "duel", "duel", "winter", "winter", "learn",
    "mention", "mention", "mention", "forget", "dated", "dated", "doubt", "claim", "claim", "claim", "clear", "wrong",
    "liars", "draw", "drawn", "drawn", "image", "back", "count", "status"};

  private final Random random;
  private final Map<String, Method> ours = new HashMap<>();
  private final Map<String, Method> theirs = new HashMap<>();
  private final TreeMap<String, int[]> seen;
  private OlderTale x;
  private PlainTale y;
  private int calls;
  private int wrong;
  private final List<String> run = new ArrayList<>();
  private int years = 2000;
  private boolean onEdge;

  private RandomRunsTest(long seed, TreeMap<String, int[]> seen) {
    random = new Random(seed);
    this.seen = seen;
    for (Method m : OlderTale.class.getDeclaredMethods()) ours.put(m.getName(), m);
    for (Method m : PlainTale.class.getDeclaredMethods()) {
      if (java.lang.reflect.Modifier.isPublic(m.getModifiers())) theirs.put(m.getName(), m);
    }
  }

  private int ask(String name, int... args) throws Exception {
    Object[] boxed = new Object[args.length];
    for (int i = 0; i < args.length; i++) boxed[i] = args[i];
    int want = (Integer) theirs.get(name).invoke(y, boxed);
    int got = (Integer) ours.get(name).invoke(x, boxed);
    calls++;
    run.add(name + java.util.Arrays.toString(args) + " -> " + got);
    int[] tally = seen.computeIfAbsent(name, n -> new int[2]);
    tally[want < 0 ? 1 : 0]++;
    if (got != want) {
      wrong++;
      System.out.println("due is " + want + " at the end of the run " + run);
    }
    return want;
  }

  private int below(int n) {
    return random.nextInt(n);
  }

  /** Mostly a number from 0 to top, now and then (in runs along the edges: often) one at the edge, just outside or far away. */
  private int about(int top) {
    int dice = below(onEdge ? 12 : 40);
    if (dice == 0) return -1 - below(3);
    if (dice == 1) return top + 1 + below(2);
    if (dice == 2 && below(5) == 0) return random.nextInt();
    if (dice == 3) return top;
    if (dice == 4) return 0;
    if (dice == 5 && onEdge) return below(2) == 0 ? Integer.MAX_VALUE - below(2) : Integer.MIN_VALUE + below(2);
    return top < 0 ? 0 : below(top + 1);
  }

  private void feedText(String text) throws Exception {
    ask("end", 0);
    StringBuilder padded = new StringBuilder(text);
    while (padded.length() % 20 != 0) padded.append((char) 0);
    for (int i = 0; i < padded.length(); i += 20) {
      int[] five = new int[5];
      for (int k = 0; k < 20; k++) five[k / 4] = five[k / 4] << 8 | padded.charAt(i + k);
      ask("feed", five);
    }
    ask("end", text.length());
  }

  private void step() throws Exception {
    String name = NAMES[below(NAMES.length)];
    int tales = y.count(0);
    switch (name) {
      case "tale": {
        int from = about(years);
        ask(name, from, Math.min(from + below(1 + below(years)), about(2000)), about(99), about(15));
        break;
      }
      case "put": {
        int what = about(3);
        int[] tops = {years, years, 99, 15};
        ask(name, about(tales - 1), what, about(tops[Math.max(0, Math.min(3, what))]));
        break;
      }
      case "of": ask(name, about(tales - 1), about(5)); break;
      case "can": ask(name, about(tales - 1), about(y.count(12) - 1)); break;
      case "terms": {
        int what = about(2);
        ask(name, what, about(what == 0 ? 4 : what == 1 ? 1 : 9));
        break;
      }
      case "feed": ask(name, random.nextInt(), random.nextInt(), random.nextInt(), random.nextInt(), random.nextInt()); break;
      case "end": ask(name, about(y.count(5))); break;
      case "LAW": {
        String text = new LawTexts(random).text();
        if (calls + text.length() / 20 > 480) break;
        feedText(text);
        int law = ask("law");
        ask("fault");
        if (law >= 0 && below(3) > 0) ask("force", law);
        break;
      }
      case "ROW": {
        StringBuilder bytes = new StringBuilder();
        int n = below(30);
        for (int i = 0; i < n; i++) {
          bytes.append((char) (i % 6 == 0 ? below(4) : i % 6 == 2 ? 4 + below(5) : i % 6 == 4 ? below(110) : i % 6 == 5 ? below(18) : below(256)));
        }
        feedText(bytes.toString());
        if (ask("row") >= 0) ask("mumbled");
        break;
      }
      case "force": ask(name, about(y.count(1)) - 1); break;
      case "tell": ask(name, about(tales - 1), about(y.count(12) - 1)); break;
      case "heard": ask(name, about(y.count(2) - 1), about(2)); break;
      case "goes": case "orders": ask(name, set()); break;
      case "best": ask(name, about(1), about(3)); break;
      case "order": {
        int set = below(3) == 0 ? y.best(below(2), 2) : set();
        if (below(2) == 0) ask(name, set, about(4), about(2));
        else for (int i = 0; i <= 2; i++) for (int w = 0; w < 3; w++) ask(name, set, i, w);
        break;
      }
      case "duel": ask(name, about(1)); break;
      case "winter": {
        int evenings = 1 + about(3);
        if (!y.isLongWinter(evenings)) ask(name, evenings, about(Math.max(0, Math.min(evenings, 5))) - 1);
        break;
      }
      case "learn": ask(name, about(y.count(12) - 1), about(1)); break;
      case "mention": ask(name, about(tales - 1), about(tales - 1), below(2) == 0 ? about(500) : about(Math.min(500, years / 4))); break;
      case "dated": ask(name, about(tales - 1), about(1)); break;
      case "doubt": ask(name, about(2)); break;
      case "claim": claim(tales); break;
      case "draw": ask(name, about(1000000)); break;
      case "drawn": ask(name, about(4), about(2)); break;
      case "image": case "back": ask(name, about(1)); break;
      case "count": ask(name, about(14)); break;
      case "hush": case "forget": case "clear": if (below(3) == 0) ask(name); break;
      default: ask(name);
    }
  }

  private int set() {
    int all = (1 << y.count(0)) - 1;
    int told = 0;
    for (int i = 0; i < y.count(2); i++) told |= 1 << y.heard(i, 0);
    int dice = below(20);
    if (dice == 0) return random.nextInt();
    if (dice == 1) return below(2048);
    int set = all & ~told & random.nextInt();
    return below(3) == 0 ? set & random.nextInt() : set;
  }

  private void claim(int tales) throws Exception {
    if (below(3) > 0 || tales == 0) {
      int tale = about(tales - 1);
      int year = y.of(tale, 0) >= 0 && below(6) > 0 ? y.of(tale, below(2)) : about(2000);
      ask("claim", tale, year, about(3));
      return;
    }
    ask("clear");
    int n = ask("draw", below(1000000));
    for (int i = 0; i < n; i++) {
      ask("claim", y.drawn(i, 0), Math.max(0, y.drawn(i, 1) - (below(5) == 0 ? below(10) : 0)), y.drawn(i, 2));
    }
    ask("wrong");
    ask("liars");
  }

  private int runOnce() throws Exception {
    x = new OlderTale();
    y = new PlainTale();
    years = below(3) == 0 ? 2000 : below(2) == 0 ? 12 : 60;
    onEdge = below(4) == 0;
    int start = below(11);
    for (int i = 0; i < start; i++) {
      int from = below(years);
      ask("tale", from, Math.min(2000, from + below(years + 1)), below(100), below(4) == 0 ? 15 : below(16));
    }
    if (below(2) == 0) ask("terms", 0, 1 + below(4));
    if (below(2) == 0) ask("terms", 1, 0);
    int length = 20 + below(440);
    while (calls < length && wrong == 0) {
      step();
      if (below(8) == 0) {
        ask("status");
        ask("count", below(15));
      }
    }
    return wrong;
  }

  public static void main(String[] args) throws Exception {
    int runs = args.length > 0 ? Integer.parseInt(args[0]) : 400;
    long first = args.length > 1 ? Long.parseLong(args[1]) : 1;
    TreeMap<String, int[]> seen = new TreeMap<>();
    int wrong = 0;
    int calls = 0;
    for (int i = 0; i < runs; i++) {
      RandomRunsTest test = new RandomRunsTest(first + i, seen);
      wrong += test.runOnce();
      calls += test.calls;
    }
    if (args.length > 0) seen.forEach((name, tally) -> System.out.println(name + " " + tally[0] + " answers, " + tally[1] + " below 0"));
    System.out.println(runs + " random runs, " + calls + " calls, " + wrong + " wrong");
    if (wrong != 0) System.exit(1);
  }
}
