import java.lang.reflect.Method;
import java.util.ArrayList;
import java.util.HashMap;
import java.util.List;
import java.util.Map;

/**
 * Calls on one new object, written as lines: "tale 0 9 5 1 = 0" makes the call and looks at its answer, "tale 0 9 5 1"
 * makes it alone, "3 times LINE" runs a line again and again, "type TEXT" and "bytes 1 2 3" leave just these on the tape.
 */
final class Script {
  private static final int MOST_CALLS = 512;
  private static final Map<String, Method> METHODS = methods();

  private final String title;
  private final OlderTale table = new OlderTale();
  private int calls = 0;
  private int asked = 0;
  private int wrong = 0;

  Script(String title) {
    this.title = title;
  }

  private static Map<String, Method> methods() {
    Map<String, Method> found = new HashMap<>();
    for (Method method : OlderTale.class.getDeclaredMethods()) {
      if (java.lang.reflect.Modifier.isPublic(method.getModifiers())) found.put(method.getName(), method);
    }
    return found;
  }

  int asked() {
    return asked;
  }

  int wrong() {
    return wrong;
  }

  Script run(String... lines) {
    for (String line : lines) runLine(line);
    return this;
  }

  private void runLine(String line) {
    int times = line.indexOf(" times ");
    if (line.startsWith("type ")) {
      type(line.substring(5));
    } else if (line.startsWith("bytes ")) {
      StringBuilder text = new StringBuilder();
      for (String number : line.substring(6).trim().split(" +")) text.append((char) Integer.parseInt(number));
      type(text.toString());
    } else if (times > 0) {
      for (int i = Integer.parseInt(line.substring(0, times)); i > 0; i--) runLine(line.substring(times + 7));
    } else {
      int is = line.indexOf(" = ");
      int got = call(is < 0 ? line : line.substring(0, is));
      if (is >= 0) due(line.substring(0, is), got, Integer.parseInt(line.substring(is + 3).trim()));
    }
  }

  void due(String what, int got, int want) {
    asked++;
    if (got != want) {
      wrong++;
      System.out.println(title + ": " + what + " answered " + got + ", due is " + want);
    }
  }

  int call(String line) {
    String[] words = line.trim().split(" +");
    Method method = METHODS.get(words[0]);
    if (method == null) throw new IllegalArgumentException(title + ": no such call: " + line);
    Object[] numbers = new Object[words.length - 1];
    for (int i = 1; i < words.length; i++) numbers[i - 1] = Integer.valueOf(words[i]);
    calls++;
    if (calls > MOST_CALLS) throw new IllegalStateException(title + ": more than 512 calls on one object");
    try {
      return (Integer) method.invoke(table, numbers);
    } catch (ReflectiveOperationException problem) {
      throw new IllegalStateException(title + ": " + line, problem);
    }
  }

  private void type(String text) {
    call("end 0");
    for (int i = 0; i < text.length(); i += 20) {
      StringBuilder feed = new StringBuilder("feed");
      for (int k = i; k < i + 20; k += 4) {
        int number = 0;
        for (int j = k; j < k + 4; j++) number = number << 8 | (j < text.length() ? text.charAt(j) : 0);
        feed.append(' ').append(number);
      }
      call(feed.toString());
    }
    due("end " + text.length(), call("end " + text.length()), text.length());
  }

  /** What can be seen without changing anything, but for what was refused. */
  List<String> look() {
    List<String> seen = new ArrayList<>();
    for (String line : List.of("fault", "mumbled", "open", "best 0 0", "best 0 2", "best 0 3", "best 1 2", "best 1 3",
        "duel 0", "duel 1", "winter 2 -1", "winter 2 0", "learn 0 0", "learn 0 1", "doubt 0", "doubt 1", "doubt 2",
        "wrong", "liars", "count 0", "count 1", "count 2", "count 3", "count 4", "count 5", "count 11", "count 12",
        "count 13", "count 14")) {
      see(seen, line);
    }
    for (int i = 0; i < call("count 0"); i++) {
      for (int what = 0; what < 6; what++) see(seen, "of " + i + " " + what);
      see(seen, "can " + i + " 0");
      see(seen, "dated " + i + " 0");
    }
    for (int i = 0; i < 3; i++) {
      for (int what = 0; what < 3; what++) {
        see(seen, "heard " + i + " " + what);
        see(seen, "drawn " + i + " " + what);
      }
    }
    return seen;
  }

  private void see(List<String> seen, String line) {
    seen.add(line + " = " + call(line));
  }
}
