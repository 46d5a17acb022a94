import java.util.Random;

/** Random texts of laws: most can be read, some were spoiled. */
final class LawTexts {
  private static final String[] FACTS = {"tale", "from", "to", "span", "base", "known", "mood", "teller"};
  private static final String[] TOKENS = {
    "worth", "gap", "bars", "if", "or", "and", "not", "(", ")", "[", "]", "<", ">", "=", "+", "-", "*", "/", ";",
    "tale", "to", "teller", "0", "2000", "2001", "00007", "99999999999", "x", "Gap", "?", "worthy"};

  private final Random random;
  private final StringBuilder text = new StringBuilder();

  LawTexts(Random random) {
    this.random = random;
  }

  String text() {
    int kind = random.nextInt(12);
    if (kind == 0) return longText();
    int clauses = 1 + random.nextInt(kind == 1 ? 14 : 4);
    for (int i = 0; i < clauses; i++) {
      if (i > 0) say(";");
      clause(kind == 1);
    }
    String made = text.toString();
    if (random.nextInt(4) == 0) made = spoil(made);
    if (random.nextInt(20) == 0) made = " ".repeat(random.nextInt(5));
    return made.length() > 400 ? made.substring(0, 400) : made;
  }

  /** About fifty parts, about eight brackets. */
  private String longText() {
    StringBuilder made = new StringBuilder("worth ");
    int brackets = random.nextInt(3) == 0 ? 0 : 6 + random.nextInt(5);
    int parts = random.nextInt(2) == 0 ? 3 : 46 + random.nextInt(8);
    made.append("[".repeat(brackets));
    for (int i = 0; i < parts; i++) {
      if (i > 0) made.append("+-*"
          .charAt(random.nextInt(3)));
      made.append(random.nextInt(4) == 0 ? "to" : String.valueOf(random.nextInt(10)));
    }
    made.append("]".repeat(brackets));
    if (random.nextInt(2) == 0) {
      int open = 6 + random.nextInt(4);
      made.append(" if ").append("not(".repeat(open)).append("mood<[5]").append(")".repeat(open));
    }
    return made.length() > 400 ? made.substring(0, 400) : made.toString();
  }

  private String spoil(String made) {
    int at = random.nextInt(made.length() + 1);
    int end = Math.min(made.length(), at + random.nextInt(4));
    String token = TOKENS[random.nextInt(TOKENS.length)];
    int way = random.nextInt(3);
    if (way == 0) return made.substring(0, at) + made.substring(end);
    if (way == 1) return made.substring(0, at) + " " + token + " " + made.substring(at);
    return made.substring(0, at) + token;
  }

  private void say(String token) {
    if (text.length() > 0) {
      char last = text.charAt(text.length() - 1);
      boolean joins = Character.isLetterOrDigit(last) && Character.isLetterOrDigit(token.charAt(0))
          && Character.isLetter(last) == Character.isLetter(token.charAt(0));
      if (joins || random.nextInt(4) == 0) text.append(" ".repeat(1 + random.nextInt(2)));
    }
    text.append(token);
  }

  private void clause(boolean small) {
    int kind = random.nextInt(3);
    say(kind == 0 ? "worth" : kind == 1 ? "gap" : "bars");
    if (kind < 2) sum(small ? 0 : 2);
    if (kind == 2 ? random.nextInt(8) > 0 : random.nextInt(2) == 0) {
      say("if");
      test(small ? 0 : 2);
    }
  }

  private void test(int deep) {
    both(deep);
    while (random.nextInt(4) == 0 && deep > 0) {
      say("or");
      both(deep);
    }
  }

  private void both(int deep) {
    plain(deep);
    while (random.nextInt(4) == 0 && deep > 0) {
      say("and");
      plain(deep);
    }
  }

  private void plain(int deep) {
    int kind = random.nextInt(6);
    if (kind == 0) {
      say("not");
      plain(deep);
    } else if (kind == 1 && deep > 0) {
      say("(");
      test(deep - 1);
      say(")");
    } else {
      sum(deep);
      say(new String[] {"<", ">", "="}[random.nextInt(3)]);
      sum(deep);
    }
  }

  private void sum(int deep) {
    term(deep);
    while (random.nextInt(3) == 0 && deep > 0) {
      say(random.nextInt(2) == 0 ? "+" : "-");
      term(deep);
    }
  }

  private void term(int deep) {
    part(deep);
    while (random.nextInt(3) == 0 && deep > 0) {
      say(random.nextInt(2) == 0 ? "*" : "/");
      part(deep);
    }
  }

  private void part(int deep) {
    int kind = random.nextInt(8);
    if (kind == 0 && deep > 0) {
      say("[");
      sum(deep - 1);
      say("]");
    } else if (kind < 5) {
      say(FACTS[random.nextInt(FACTS.length)]);
    } else {
      say(String.valueOf(kind == 5 ? random.nextInt(2001) : random.nextInt(12)));
    }
  }
}
