import java.lang.management.ManagementFactory;
import java.lang.reflect.InvocationTargetException;
import java.lang.reflect.Method;
import java.util.ArrayList;
import java.util.Arrays;
import java.util.Comparator;
import java.util.List;
import java.util.Random;

/** No call throws, for any arguments in any state; the same calls give the same answers; a run stays small. */
public final class WildTest {
  private static final int[] EDGES = {
    Integer.MIN_VALUE, Integer.MIN_VALUE + 1, -1000000007, -1024, -6, -2, -1, 0, 1, 2, 3, 4, 5, 7, 9, 10, 11, 15, 16, 31, 99,
    100, 255, 400, 401, 500, 501, 1023, 1024, 2000, 2001, 1000000, 1000001, Integer.MAX_VALUE - 1, Integer.MAX_VALUE};
  /** Two thirds of the room, at four bytes an element. */
  private static final long ROOM_BYTES = 4L * 7300000 * 2 / 3;

  private static List<Method> face() {
    List<Method> face = new ArrayList<>(Arrays.asList(OlderTale.class.getDeclaredMethods()));
    face.removeIf(m -> !java.lang.reflect.Modifier.isPublic(m.getModifiers()));
    face.sort(Comparator.comparing(Method::getName));
    return face;
  }

  private static int argument(Random random) {
    int dice = random.nextInt(10);
    if (dice == 0) return random.nextInt();
    if (dice < 3) return EDGES[random.nextInt(EDGES.length)];
    return random.nextInt(dice < 7 ? 4 : 12) - (dice == 9 ? 2 : 0);
  }

  /** All answers of one run, or null if a call threw. */
  private static int[] run(long seed, int length, boolean rich) throws Exception {
    List<Method> face = face();
    Random random = new Random(seed);
    OlderTale x = new OlderTale();
    if (rich) {
      for (int i = 0; i < 10; i++) x.tale(random.nextInt(30), 30 + random.nextInt(30), random.nextInt(100), random.nextInt(16));
    }
    int[] answers = new int[length];
    List<String> said = new ArrayList<>();
    for (int i = 0; i < length; i++) {
      Method m = face.get(random.nextInt(face.size()));
      Object[] args = new Object[m.getParameterCount()];
      for (int k = 0; k < args.length; k++) args[k] = argument(random);
      if (m.getName().equals("feed")) text(args, random);
      said.add(m.getName() + Arrays.toString(args));
      try {
        answers[i] = (Integer) m.invoke(x, args);
      } catch (InvocationTargetException e) {
        System.out.println(e.getCause() + " at the end of the run " + said);
        return null;
      }
    }
    return answers;
  }

  private static void text(Object[] args, Random random) {
    String[] texts = {"worth to * to / tale   ", "gap 2000 * 2000 / base ", "bars if not ((teller =", "   [ [ span ] ] ) or  (", "if mood < known and    "};
    String text = texts[random.nextInt(texts.length)];
    for (int k = 0; k < 5 && random.nextInt(12) > 0; k++) {
      int number = 0;
      for (int i = 0; i < 4; i++) number = number << 8 | text.charAt(4 * k + i);
      args[k] = number;
    }
  }

  private static int wildRuns() throws Exception {
    int wrong = 0;
    for (int seed = 0; seed < 400; seed++) {
      int[] once = run(seed, 512, seed % 2 == 0);
      int[] again = run(seed, 512, seed % 2 == 0);
      if (once == null || !Arrays.equals(once, again)) {
        wrong++;
        System.out.println("wild run " + seed + " threw, or answered otherwise the second time");
      }
    }
    return run(7, 20000, true) == null ? wrong + 1 : wrong;
  }

  /** Tales that all can be told everywhere make the dearest calls. */
  private static OlderTale dear() {
    OlderTale x = new OlderTale();
    x.terms(0, 4);
    x.terms(1, 0);
    for (int i = 0; i < 10; i++) x.tale(0, 2000, 10 + i, 15 - (i == 9 ? 2 : 0));
    for (int i = 0; i < 10; i++) x.mention(i, (i + 1) % 10, 1);
    return x;
  }

  private static int room() {
    com.sun.management.ThreadMXBean bean = (com.sun.management.ThreadMXBean) ManagementFactory.getThreadMXBean();
    long thread = Thread.currentThread().getId();
    int wrong = 0;
    for (int kind = 0; kind < 8; kind++) {
      dearRun(kind, 20);
      long before = bean.getThreadAllocatedBytes(thread);
      dearRun(kind, 480);
      long made = bean.getThreadAllocatedBytes(thread) - before;
      if (made > ROOM_BYTES) {
        wrong++;
        System.out.println("dear run " + kind + " made " + made + " bytes");
      }
    }
    return wrong;
  }

  private static int dearRun(int kind, int calls) {
    OlderTale x = dear();
    int sum = 0;
    for (int i = 0; i < calls; i++) {
      switch (kind) {
        case 0: sum += x.learn(1, i % 2); break;
        case 1: sum += x.put(0, 2, i % 100) + x.winter(4, i % 5 - 1); break;
        case 2: sum += x.put(0, 2, i % 100) + x.best(i % 2, 2); break;
        case 3: sum += x.orders(127 << i % 4) + x.order(1023, i % 10, 2); break;
        case 4: sum += x.doubt(2) + x.dated(i % 10, 1); break;
        case 5: sum += x.draw(i) + x.image(0) + x.back(0); break;
        case 6: sum += x.feed(0x62617273, 0x3b626172, 0x733b6261, 0x72733b62, 0x61727320) + x.law() + x.image(i % 2) + x.back(1 - i % 2); break;
        default: sum += new OlderTale().open(); break;
      }
    }
    return sum;
  }

  public static void main(String[] args) throws Exception {
    int wrong = wildRuns() + room();
    System.out.println("wild runs and dear runs, " + wrong + " wrong");
    if (wrong != 0) System.exit(1);
  }
}
