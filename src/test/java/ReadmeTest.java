import java.io.File;
import java.lang.reflect.Method;
import java.net.URL;
import java.net.URLClassLoader;
import java.nio.file.Files;
import java.nio.file.Path;
import java.util.ArrayList;
import java.util.List;
import java.util.regex.Matcher;
import java.util.regex.Pattern;
import javax.tools.JavaCompiler;
import javax.tools.ToolProvider;

/** README.md: its examples, compiled and run as they stand there, and its list of calls against the document's face. */
public final class ReadmeTest {
  /** "x.open();   // 7: why" tells that the answer is 7. */
  private static final Pattern ASKED = Pattern.compile("^(\\w+\\.\\w+\\(.*\\));\\s*// (-?\\d+)(:.*)?$");
  private static final Pattern BLOCK = Pattern.compile("(?s)```java\n(.*?)```");
  private static final Pattern CALL = Pattern.compile("public int (\\w+)\\((.*?)\\);");
  /** Each promise but the first, which is the constructor's, is a call. */
  private static final int CALLS = 37;
  private static int asked = 0;
  private static int wrong = 0;

  private static void fail(String what) {
    wrong++;
    System.out.println(what);
  }

  /** The examples as one program that says which of its answers are not as told. */
  private static String program(String readme) {
    StringBuilder body = new StringBuilder();
    Matcher blocks = BLOCK.matcher(readme);
    while (blocks.find()) {
      for (String line : blocks.group(1).split("\n")) {
        Matcher call = ASKED.matcher(line.trim());
        if (call.find()) {
          asked++;
          body.append("due(\"" + call.group(1) + "\", " + call.group(1) + ", " + call.group(2) + ");\n");
        } else {
          if (!line.isBlank() && !line.contains("= new OlderTale();")) fail("an example without its answer: " + line);
          body.append(line).append('\n');
        }
      }
    }
    return "public final class Examples {\n"
        + "  private static int wrong = 0;\n"
        + "  private static void due(String call, int got, int want) {\n"
        + "    if (got == want) return;\n"
        + "    wrong++;\n"
        + "    System.out.println(\"README.md: \" + call + \" answered \" + got + \", it tells \" + want);\n"
        + "  }\n"
        + "  public static int run() {\n" + body + "    return wrong;\n  }\n}\n";
  }

  private static void examples(String readme, Path folder) throws Exception {
    Path source = folder.resolve("Examples.java");
    Files.writeString(source, program(readme));
    JavaCompiler javac = ToolProvider.getSystemJavaCompiler();
    String classes = System.getProperty("java.class.path");
    if (javac.run(null, null, null, "--release", "17", "-cp", classes, "-d", folder.toString(), source.toString()) != 0) {
      fail("the examples do not compile");
      return;
    }
    try (URLClassLoader loader = new URLClassLoader(new URL[] {folder.toUri().toURL()})) {
      Method run = loader.loadClass("Examples").getMethod("run");
      wrong += (Integer) run.invoke(null);
    }
  }

  /** Each call of the face has its line, with its parameters, in the document's order. */
  private static void calls(String readme, String document) {
    List<String> face = new ArrayList<>();
    Matcher call = CALL.matcher(document);
    while (call.find()) face.add("| `" + call.group(1) + "(" + call.group(2).replace("int ", "") + ")` |");
    if (face.size() != CALLS) fail("the document's face has " + face.size() + " calls");
    int at = 0;
    for (String line : face) {
      int found = readme.indexOf(line, at);
      if (found < 0) fail("missing in the list of calls, or out of its order: " + line);
      at = Math.max(at, found);
    }
  }

  private static void clean(Path folder) {
    File[] files = folder.toFile().listFiles();
    for (File file : files == null ? new File[0] : files) file.delete();
    folder.toFile().delete();
  }

  public static void main(String[] args) throws Exception {
    String readme = Files.readString(Path.of("README.md"));
    Path folder = Files.createTempDirectory("readme");
    try {
      examples(readme, folder);
    } finally {
      clean(folder);
    }
    calls(readme, Files.readString(Path.of("../shared/DOC.md")));
    if (asked < 40) fail("only " + asked + " examples were found");
    System.out.println(asked + " examples of README.md, " + wrong + " wrong");
    if (wrong != 0) System.exit(1);
  }
}
