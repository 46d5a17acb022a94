/** Boundary cases, each with a title that tells its promise and on an object of its own. */
final class Edges {
  private int edges = 0;
  private int asked = 0;
  private int wrong = 0;

  void edge(String title, String... lines) {
    end(new Script(title).run(lines));
  }

  void end(Script script) {
    edges++;
    asked += script.asked();
    wrong += script.wrong();
  }

  void finish() {
    System.out.println(edges + " edges, " + asked + " answers, " + wrong + " wrong");
    if (wrong != 0) System.exit(1);
  }
}
