import java.util.ArrayList;
import java.util.List;

/**
 * A call that is refused, or answers NONE, changes nothing but what the document says: of two objects that were treated
 * alike, one is refused; then all that can be seen of both is alike, but for status and the one count of refusals.
 */
public final class RefusalsTest {
  private static final Edges EDGES = new Edges();

  private static final String[] RICH = {
    "tale 10 50 5 3", "tale 5 60 6 7", "tale 0 70 7 2", "terms 0 3", "terms 1 0", "terms 2 4", "type worth base*2;gap 3", "law", "force 0",
    "mention 2 0 3", "claim 1 40 0", "draw 7", "image 0", "tell 0 0", "type bars ?", "law", "bytes 1", "row", "image 1", "put 0 2 9",
    "type worth 7"};

  private static final String[] FULL = {
    "10 times tale 0 50 5 3", "type gap 1", "law", "type gap 2", "law", "type gap 3", "law", "type gap 4", "law", "type gap 5", "law",
    "type gap 6", "law", "force 3", "10 times mention 0 1 1", "10 times claim 0 5 0", "draw 9", "image 0", "tell 3 1",
    "20 times feed 1650553459 538976288 538976288 538976288 538976288"};

  private static final String[] BARE = {};

  /** The call is made on one of two like objects; the code is 0 for a call that only answers NONE. */
  private static void refused(String name, String[] before, String call, int code) {
    String title = name + ", " + call;
    Script one = new Script(title).run(before);
    Script other = new Script(title).run(before);
    int[] counts = counts(other);
    int status = other.call("status");
    one.run(call + " = " + (code == 0 ? -1 : code));
    one.run("status = " + (code == 0 ? status : code));
    int[] codes = {-1, -2, -3, -5, -6};
    for (int i = 0; i < codes.length; i++) {
      one.run("count " + (6 + i) + " = " + (counts[i] + (code == codes[i] ? 1 : 0)));
    }
    List<String> seen = all(one);
    List<String> want = all(other);
    one.due("what is seen", seen.size(), want.size());
    for (int i = 0; i < want.size() && i < seen.size(); i++) {
      one.due("instead of \"" + want.get(i) + "\" \"" + seen.get(i) + "\"", seen.get(i).equals(want.get(i)) ? 1 : 0, 1);
    }
    EDGES.end(one);
  }

  private static int[] counts(Script script) {
    int[] counts = new int[5];
    for (int i = 0; i < 5; i++) counts[i] = script.call("count " + (6 + i));
    return counts;
  }

  /** What can be seen, then what the tape holds, then both images. */
  private static List<String> all(Script script) {
    List<String> seen = new ArrayList<>(script.look());
    seen.add("law of the tape = " + script.call("law"));
    seen.add("its fault = " + script.call("fault"));
    seen.add("its force = " + script.call("force 1"));
    seen.add("its worth = " + script.call("of 0 4"));
    for (int k = 0; k < 2; k++) {
      int back = script.call("back " + k);
      seen.add("back " + k + " = " + back);
      if (back == 0) seen.addAll(script.look());
    }
    return seen;
  }

  private static void anywhere(String name, String[] before) {
    refused(name, before, "tale -1 5 5 5", -1);
    refused(name, before, "tale 6 5 5 5", -1);
    refused(name, before, "tale 5 2001 5 5", -1);
    refused(name, before, "tale 5 5 100 5", -1);
    refused(name, before, "tale 5 5 5 16", -1);
    refused(name, before, "put 0 4 5", -1);
    refused(name, before, "put 0 3 16", -1);
    refused(name, before, "put 10 2 5", -2);
    refused(name, before, "put -1 2 5", -2);
    refused(name, before, "terms 0 5", -1);
    refused(name, before, "terms 1 2", -1);
    refused(name, before, "terms 2 10", -1);
    refused(name, before, "terms 3 0", -1);
    refused(name, before, "force 6", -2);
    refused(name, before, "force -2", -2);
    refused(name, before, "tell 0 4", -1);
    refused(name, before, "tell 10 0", -2);
    refused(name, before, "mention 0 1 501", -1);
    refused(name, before, "mention 0 10 5", -2);
    refused(name, before, "claim 0 2001 0", -1);
    refused(name, before, "claim 0 5 4", -1);
    refused(name, before, "claim 10 5 0", -2);
    refused(name, before, "draw -1", -1);
    refused(name, before, "draw 1000001", -1);
    refused(name, before, "image 2", -1);
    refused(name, before, "image -1", -1);
    refused(name, before, "back 2", -1);
    refused(name, before, "back -1", -1);
    answersNone(name, before);
  }

  private static void answersNone(String name, String[] before) {
    for (String call : List.of("of 10 0", "of 0 6", "can 10 0", "can 0 4", "end -1", "end 401", "heard 9 0", "heard 0 3", "goes 1024",
        "best 2 0", "best 0 4", "order 1024 0 0", "order 0 0 0", "orders 1024", "duel 2", "winter 0 -1", "winter 5 0", "winter 2 2",
        "winter 2 -2", "learn 4 0", "learn 0 2", "dated 10 0", "dated 0 2", "doubt 3", "drawn 10 0", "drawn 0 3", "count 15")) {
      refused(name, before, call, 0);
    }
  }

  private static void rich() {
    anywhere("rich", RICH);
    refused("rich", RICH, "put 1 0 61", -1);
    refused("rich", RICH, "put 1 1 4", -1);
    refused("rich", RICH, "put 3 2 5", -2);
    refused("rich", RICH, "force 1", -2);
    refused("rich", RICH, "tell 0 3", -1);
    refused("rich", RICH, "tell 3 0", -2);
    refused("rich", RICH, "tell 0 1", -3);
    refused("rich", RICH, "tell 1 0", -3);
    refused("rich", RICH, "tell 2 0", -3);
    refused("rich", RICH, "mention 3 0 5", -2);
    refused("rich", RICH, "mention 0 3 5", -2);
    refused("rich", RICH, "mention 1 1 5", -3);
    refused("rich", RICH, "claim 3 5 0", -2);
    refused("rich", RICH, "goes 1", 0);
    refused("rich", RICH, "order 1 0 0", 0);
    refused("rich", RICH, "orders 1", 0);
    refused("rich", RICH, "end 8", 0);
  }

  private static void full() {
    anywhere("full", FULL);
    refused("full", FULL, "tale 5 6 7 8", -5);
    refused("full", FULL, "mention 0 1 5", -5);
    refused("full", FULL, "mention 1 1 5", -3);
    refused("full", FULL, "claim 0 5 1", -5);
    refused("full", FULL, "tell 3 0", -3);
    refused("full", FULL, "back 1", -2);
    refused("full", FULL, "feed 1 2 3 4 5", 0);
    refused("full", FULL, "orders 511", 0);
    refused("full", FULL, "duel 0", 0);
  }

  private static void bare() {
    anywhere("bare", BARE);
    refused("bare", BARE, "put 0 2 5", -2);
    refused("bare", BARE, "force 0", -2);
    refused("bare", BARE, "tell 0 0", -2);
    refused("bare", BARE, "row", -6);
    refused("bare", BARE, "mention 0 0 0", -2);
    refused("bare", BARE, "claim 0 0 0", -2);
    refused("bare", BARE, "back 0", -2);
    refused("bare", BARE, "back 1", -2);
    refused("bare", BARE, "learn 0 0", 0);
    refused("bare", BARE, "end 1", 0);
  }

  /** What the document says that a refusal changes: the tape is empty behind law(), and its fault is told if it was read. */
  private static void changes() {
    EDGES.edge("law -6: the tape and the fault", "type bars", "law", "tale 0 9 5 3", "type bars ?", "law = -6", "count 5 = 0", "fault = 5",
        "count 1 = 1", "count 11 = -1", "count 0 = 1", "of 0 4 = 5", "mumbled = 0", "force 1 = -2", "count 10 = 1");
    EDGES.edge("law -6 under a law in force", "tale 0 9 5 3", "type worth 8", "law", "force 0", "of 0 4 = 8", "type worth 9;", "law = -6",
        "of 0 4 = 8", "count 11 = 0", "type worth 3", "law = 1", "of 0 4 = 8", "force 1 = 0", "of 0 4 = 3");
    Script script = new Script("law -5: the tape alone").run(FULL);
    EDGES.end(script.run("fault = -1", "law = -5", "count 5 = 0", "fault = -1", "count 1 = 6", "count 11 = 3", "of 0 5 = 4", "row = -6"));
    EDGES.edge("row -6: mumbled stays", "bytes 9 9 1 1 5 6 7", "row = 0", "mumbled = 2", "row = -6", "mumbled = 2", "count 0 = 0");
    EDGES.edge("law -6 leaves mumbled", "bytes 1", "row", "law = -6", "mumbled = 1");
    EDGES.edge("row leaves fault", "type ?", "law", "bytes 1", "row", "row = -6", "fault = 0");
  }

  public static void main(String[] args) {
    rich();
    full();
    bare();
    changes();
    EDGES.finish();
  }
}
