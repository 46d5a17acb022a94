import java.util.ArrayList;
import java.util.List;

/** A law as a tree, read rule by rule as the document writes the language. */
final class PlainLaw {
  private static final List<String> FACTS =
      List.of("tale", "from", "to", "span", "base", "known", "mood", "teller");

  private static final class Fault extends RuntimeException {
    private static final long serialVersionUID = 1L;
    private final int place;

    private Fault(int place) {
      this.place = place;
    }
  }

  private static final class Broken extends RuntimeException {
    private static final long serialVersionUID = 1L;
  }

  private interface Node {
    long ask(int[] facts);
  }

  private static final class Clause {
    private String word;
    private Node sum;
    private Node test;
  }

  private static final class Token {
    private final String text;
    private final int place;

    private Token(String text, int place) {
      this.text = text;
      this.place = place;
    }
  }

  private final List<Clause> clauses = new ArrayList<>();
  private final List<Token> tokens = new ArrayList<>();
  private int at = 0;
  private int parts = 0;
  private int open = 0;

  /** The fault's place, or -1. */
  int read(String text) {
    split(text);
    try {
      do {
        if (clauses.size() == 12) throw new Fault(here().place);
        clauses.add(clause());
      } while (take(";"));
      if (!here().text.isEmpty()) throw new Fault(here().place);
      return -1;
    } catch (Fault f) {
      return f.place;
    }
  }

  /** What the last clause of that word that holds tells (0 for "bars"), or null if none holds. */
  Integer last(String word, int[] facts) {
    for (int i = clauses.size() - 1; i >= 0; i--) {
      Clause c = clauses.get(i);
      if (!c.word.equals(word)) continue;
      try {
        long value = c.sum == null ? 0 : c.sum.ask(facts);
        if (c.test == null || c.test.ask(facts) == 1) return (int) value;
      } catch (Broken b) {
        continue;
      }
    }
    return null;
  }

  private static int kindOf(char c) {
    return c >= 'a' && c <= 'z' ? 1 : c >= '0' && c <= '9' ? 2 : 3;
  }

  private void split(String text) {
    int i = 0;
    while (i < text.length()) {
      char c = text.charAt(i);
      int end = i + 1;
      while (kindOf(c) != 3 && end < text.length() && kindOf(text.charAt(end)) == kindOf(c)) end++;
      if (c != ' ') tokens.add(new Token(text.substring(i, end), i));
      i = end;
    }
    tokens.add(new Token("", text.length()));
  }

  private Token here() {
    return tokens.get(at);
  }

  private boolean take(String text) {
    if (!here().text.equals(text)) return false;
    at++;
    return true;
  }

  private void must(String text) {
    if (!take(text)) throw new Fault(here().place);
  }

  private Clause clause() {
    Clause c = new Clause();
    c.word = here().text;
    if (take("worth") || take("gap")) {
      c.sum = sum();
    } else {
      must("bars");
    }
    if (take("if")) c.test = test();
    return c;
  }

  private Node test() {
    Node left = both();
    while (take("or")) {
      Node a = left;
      Node b = both();
      left = f -> a.ask(f) == 1 ? 1 : b.ask(f);
    }
    return left;
  }

  private Node both() {
    Node left = plain();
    while (take("and")) {
      Node a = left;
      Node b = plain();
      left = f -> a.ask(f) == 0 ? 0 : b.ask(f);
    }
    return left;
  }

  private void enter() {
    if (open == 8) throw new Fault(here().place);
    open++;
    at++;
  }

  private Node plain() {
    if (take("not")) {
      Node a = plain();
      return f -> 1 - a.ask(f);
    }
    if (here().text.equals("(")) {
      enter();
      Node a = test();
      must(")");
      open--;
      return a;
    }
    Node a = sum();
    String sign = here().text;
    if (!take("<") && !take(">")) must("=");
    Node b = sum();
    return f -> {
      long x = a.ask(f);
      long y = b.ask(f);
      return (sign.equals("<") ? x < y : sign.equals(">") ? x > y : x == y) ? 1 : 0;
    };
  }

  private static long sound(long value) {
    if (Math.abs(value) > 1000000000L) throw new Broken();
    return value;
  }

  private Node sum() {
    Node left = term();
    while (here().text.equals("+") || here().text.equals("-")) {
      int turn = take("+") ? 1 : -1;
      if (turn < 0) must("-");
      Node a = left;
      Node b = term();
      left = f -> sound(a.ask(f) + turn * b.ask(f));
    }
    return left;
  }

  private Node term() {
    Node left = part();
    while (here().text.equals("*") || here().text.equals("/")) {
      boolean times = take("*");
      if (!times) must("/");
      Node a = left;
      Node b = part();
      left = f -> {
        long x = a.ask(f);
        long y = b.ask(f);
        if (!times && y == 0) throw new Broken();
        return times ? sound(x * y) : x / y;
      };
    }
    return left;
  }

  private Node part() {
    String text = here().text;
    if (text.equals("[")) {
      enter();
      Node a = sum();
      must("]");
      open--;
      return a;
    }
    boolean number = !text.isEmpty() && kindOf(text.charAt(0)) == 2
        && new java.math.BigInteger(text).bitLength() < 20 && Integer.parseInt(text) <= 2000;
    int fact = FACTS.indexOf(text);
    if ((!number && fact < 0) || parts == 50) throw new Fault(here().place);
    parts++;
    at++;
    long value = number ? Integer.parseInt(text) : 0;
    return f -> number ? value : f[fact];
  }
}
