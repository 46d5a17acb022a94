import java.lang.reflect.Constructor;
import java.lang.reflect.Field;
import java.lang.reflect.Method;
import java.lang.reflect.Modifier;
import java.nio.charset.StandardCharsets;
import java.nio.file.Files;
import java.nio.file.Path;
import java.util.ArrayList;
import java.util.List;
import java.util.Set;
import java.util.TreeSet;
import java.util.regex.Matcher;
import java.util.regex.Pattern;

/** The rules of LANGUAGE.md that a plain look at the source and at the class can tell. */
public final class LanguageTest {
  private static final String FACE =
      "tale4 put3 of2 can2 terms2 feed5 end1 row0 mumbled0 law0 fault0 force1 tell2 hush0 heard2 open0 goes1 best2 order3 "
      + "orders1 duel1 winter2 learn2 mention3 forget0 dated2 doubt1 claim3 clear0 wrong0 liars0 draw1 drawn2 image1 back1 "
      + "count1 status0";
  private static int wrong = 0;

  private static void check(boolean fine, String what) {
    if (!fine) {
      wrong++;
      System.out.println(what);
    }
  }

  private static void face() {
    Set<String> want = new TreeSet<>(List.of(FACE.split(" ")));
    Set<String> names = new TreeSet<>();
    Set<String> got = new TreeSet<>();
    for (Method m : OlderTale.class.getDeclaredMethods()) {
      if (!Modifier.isPrivate(m.getModifiers())) {
        got.add(m.getName() + m.getParameterCount());
        names.add(m.getName());
        check(Modifier.isPublic(m.getModifiers()) && m.getReturnType() == int.class, "not of the face: " + m);
      }
    }
    check(want.equals(got), "the face is " + got);
    for (Field f : OlderTale.class.getDeclaredFields()) {
      boolean none = f.getName().equals("NONE");
      check(none == Modifier.isPublic(f.getModifiers()) && (none || Modifier.isPrivate(f.getModifiers())), "field " + f);
    }
    Constructor<?>[] made = OlderTale.class.getDeclaredConstructors();
    check(made.length == 1 && made[0].getParameterCount() == 0 && Modifier.isPublic(made[0].getModifiers()), "constructors");
    check(Modifier.isFinal(OlderTale.class.getModifiers()), "final");
    classes(names);
  }

  private static void classes(Set<String> names) {
    List<Class<?>> all = new ArrayList<>(List.of(OlderTale.class.getDeclaredClasses()));
    check(all.size() < 12, "classes: " + all.size());
    all.add(OlderTale.class);
    for (Class<?> c : all) {
      int fields = 0;
      for (Field f : c.getDeclaredFields()) {
        if (!Modifier.isStatic(f.getModifiers())) fields++;
        check(!Modifier.isStatic(f.getModifiers()) || Modifier.isFinal(f.getModifiers()), "static state " + f);
      }
      check(fields <= 20, "fields of " + c + ": " + fields);
      check(c == OlderTale.class || Modifier.isStatic(c.getModifiers()), "not static: " + c);
      for (Method m : c.getDeclaredMethods()) {
        check(m.getParameterCount() <= 7, "parameters of " + m);
        check(c == OlderTale.class || !names.contains(m.getName()), "a name of the face: " + m);
        check(!Modifier.isPrivate(m.getModifiers()) || !names.contains(m.getName()), "a private name of the face: " + m);
      }
    }
  }

  private static void source() throws Exception {
    String text = Files.readString(Path.of("src/main/java/OlderTale.java"), StandardCharsets.ISO_8859_1);
    for (int i = 0; i < text.length(); i++) check(text.charAt(i) < 128 && text.charAt(i) != '\t', "sign at " + i);
    String code = text.replaceAll("(?s)/\\*.*?\\*/", "").replaceAll("//[^\n]*", "").replaceAll("\"[^\"\n]*\"", "\"\"");
    String forbidden = "throw|try|catch|synchronized|assert|package|native|volatile|transient|protected|instanceof|record|Exact|System\\.(?!arraycopy)|java\\.(?!util\\.Arrays;)";
    Matcher m = Pattern.compile("\\b(" + forbidden + ")|->|::|@").matcher(code);
    while (m.find()) check(false, "forbidden: " + m.group());
    check(!Pattern.compile("\"\"\\s*\\+|\\+\\s*\"\"").matcher(code).find(), "texts joined by +");
    check(!Pattern.compile("while\\s*\\(true|for\\s*\\(;;").matcher(code).find(), "a loop without an end");
    check(!Pattern.compile("static\\s*\\{").matcher(code).find(), "a static block");
    lengths(code.split("\n"));
  }

  /** A method begins with a line that ends in ") {" at a class's depth, and ends with the brace below it. */
  private static void lengths(String[] lines) {
    Pattern head = Pattern.compile("^( {2}| {4})(public|private)\\b.*\\) \\{$");
    for (int i = 0; i < lines.length; i++) {
      Matcher m = head.matcher(lines[i]);
      if (!m.find() || lines[i].contains(" class ")) continue;
      int end = i;
      while (end < lines.length && !lines[end].equals(m.group(1) + "}")) end++;
      check(end - i + 1 <= 60, "long method at line " + (i + 1) + ": " + lines[i]);
    }
  }

  public static void main(String[] args) throws Exception {
    face();
    source();
    System.out.println("the language's rules, " + wrong + " broken");
    if (wrong != 0) System.exit(1);
  }
}
