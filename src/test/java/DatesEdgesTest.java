/** The boundary cases of promises 25 to 38: mentions, claims, draws, images, count, status. */
public final class DatesEdgesTest {
  private static final Edges EDGES = new Edges();

  private static void edge(String title, String... lines) {
    EDGES.edge(title, lines);
  }

  private static void mention() {
    edge("25 years, the first and the last", "2 times tale 0 2000 1 1", "mention 0 1 0 = 1", "mention 0 1 500 = 2", "status = 0");
    edge("25 years below 0, above 500", "2 times tale 0 2000 1 1", "mention 0 1 -1 = -1", "mention 0 1 501 = -1",
        "mention 0 1 2147483647 = -1", "mention 0 1 -2147483648 = -1", "count 6 = 4", "count 3 = 0", "status = -1");
    edge("25 no such tale", "2 times tale 0 2000 1 1", "mention 2 0 5 = -2", "mention 0 2 5 = -2", "mention -1 0 5 = -2",
        "mention 0 -1 5 = -2", "mention 2147483647 0 5 = -2", "mention 0 -2147483648 5 = -2", "mention 10 0 5 = -2", "count 7 = 7",
        "count 3 = 0", "status = -2");
    edge("25 the last tales", "10 times tale 0 2000 1 1", "mention 9 8 5 = 1", "mention 8 9 5 = 2", "mention 9 10 5 = -2");
    edge("25 the same tale", "2 times tale 0 2000 1 1", "mention 0 0 5 = -3", "mention 1 1 0 = -3", "count 8 = 2", "count 3 = 0",
        "status = -3");
    edge("25 the tenth is the last", "2 times tale 0 2000 1 1", "9 times mention 0 1 5", "mention 0 1 5 = 10", "status = 0",
        "mention 0 1 5 = -5", "status = -5", "count 9 = 1", "count 3 = 10");
    edge("25 -1 is ahead of -2, -3, -5", "tale 0 9 1 1", "tale 0 9 1 1", "mention 5 5 501 = -1", "mention 0 0 -1 = -1",
        "10 times mention 0 1 1", "mention 0 1 501 = -1", "count 6 = 3");
    edge("25 -2 is ahead of -3, -5", "tale 0 9 1 1", "tale 0 9 1 1", "mention 5 5 5 = -2", "10 times mention 0 1 1",
        "mention 0 5 5 = -2", "count 7 = 2");
    edge("25 -3 is ahead of -5", "tale 0 9 1 1", "tale 0 9 1 1", "10 times mention 0 1 1", "mention 1 1 1 = -3", "count 8 = 1",
        "count 9 = 0");
    edge("26 none", "forget = 0", "count 3 = 0");
    edge("26 all ten", "2 times tale 0 9 1 1", "10 times mention 0 1 1", "forget = 10", "count 3 = 0", "forget = 0",
        "mention 0 1 1 = 1");
    edge("26 is no call that status tells of", "force 5 = -2", "forget = 0", "status = -2");
  }

  private static void dated() {
    edge("27 without mentions its span", "tale 0 2000 1 1", "dated 0 0 = 0", "dated 0 1 = 2000");
    edge("27 no such tale", "tale 0 9 1 1", "dated 1 0 = -1", "dated -1 0 = -1", "dated 10 0 = -1", "dated 2147483647 1 = -1",
        "dated -2147483648 1 = -1");
    edge("27 no such what", "tale 0 9 1 1", "dated 0 2 = -1", "dated 0 -1 = -1", "dated 0 2147483647 = -1");
    edge("27 none is not refused", "dated 0 0 = -1", "status = 0", "count 6 = 0", "count 7 = 0");
    edge("27 just so many years ahead", "tale 0 9 1 1", "tale 0 9 1 1", "mention 0 1 9", "dated 0 0 = 0", "dated 0 1 = 0",
        "dated 1 0 = 9", "dated 1 1 = 9");
    edge("27 one year too many", "tale 0 9 1 1", "tale 0 9 1 1", "tale 3 4 1 1", "mention 0 1 10", "dated 0 0 = -1", "dated 1 1 = -1",
        "dated 2 0 = -1", "doubt 0 = 1");
    edge("27 no years ahead: the same year will do", "tale 5 9 1 1", "tale 0 5 1 1", "mention 0 1 0", "dated 0 0 = 5",
        "dated 0 1 = 5", "dated 1 0 = 5", "dated 1 1 = 5");
    edge("27 a ring of 0 years agrees", "2 times tale 0 9 1 1", "mention 0 1 0", "mention 1 0 0", "dated 0 0 = 0", "dated 1 1 = 9",
        "doubt 0 = 0");
    edge("27 a ring of 1 year does not", "2 times tale 0 2000 1 1", "mention 0 1 0", "mention 1 0 1", "dated 0 0 = -1", "doubt 0 = 1",
        "doubt 1 = 1", "doubt 2 = 2");
    edge("27 all ten in a row", "10 times tale 0 2000 1 1", "mention 9 8 200", "mention 8 7 200", "mention 7 6 200", "mention 6 5 200",
        "mention 5 4 200", "mention 4 3 200", "mention 3 2 200", "mention 2 1 200", "mention 1 0 200", "dated 0 0 = 1800",
        "dated 0 1 = 2000", "dated 9 0 = 0", "dated 9 1 = 200", "dated 5 0 = 800", "dated 5 1 = 1000");
    edge("27 all ten in a row, the other way", "10 times tale 0 2000 1 1", "mention 0 1 200", "mention 1 2 200", "mention 2 3 200",
        "mention 3 4 200", "mention 4 5 200", "mention 5 6 200", "mention 6 7 200", "mention 7 8 200", "mention 8 9 200",
        "dated 0 0 = 0", "dated 0 1 = 200", "dated 9 0 = 1800", "dated 9 1 = 2000", "dated 4 0 = 800", "dated 4 1 = 1000");
    edge("27 just all the years", "6 times tale 0 2000 1 1", "mention 0 1 500", "mention 1 2 500", "mention 2 3 500",
        "mention 3 4 500", "dated 4 0 = 2000", "dated 0 1 = 0", "mention 4 5 1", "dated 4 0 = -1", "doubt 0 = 1", "doubt 1 = 1",
        "doubt 2 = 5");
    edge("27 a ring of all ten", "10 times tale 0 2000 1 1", "mention 0 1 0", "mention 1 2 0", "mention 2 3 0", "mention 3 4 0",
        "mention 4 5 0", "mention 5 6 0", "mention 6 7 0", "mention 7 8 0", "mention 8 9 0", "mention 9 0 0", "dated 0 0 = 0",
        "put 5 0 7", "dated 0 0 = 7", "put 3 1 8", "dated 9 1 = 8", "put 2 1 6", "dated 0 0 = -1", "doubt 0 = 1", "doubt 1 = 1",
        "doubt 2 = 7");
    edge("27 the strictest of two", "2 times tale 0 9 1 1", "mention 0 1 3", "mention 0 1 2", "dated 1 0 = 3", "dated 0 1 = 6");
    edge("27 gaps and tellers aside", "2 times tale 0 9 1 0", "type gap 99;bars", "law", "force 0", "mention 0 1 3", "dated 1 0 = 3");
    edge("27 behind forget", "2 times tale 0 9 1 1", "mention 0 1 3", "forget = 1", "dated 1 0 = 0", "dated 0 1 = 9");
  }

  private static void doubt() {
    edge("28 no such what", "doubt -1 = -1", "doubt 3 = -1", "doubt 2147483647 = -1", "doubt -2147483648 = -1", "status = 0",
        "count 6 = 0");
    edge("28 if some agree, none is left out, in one way", "2 times tale 0 9 1 1", "mention 0 1 9", "doubt 0 = 0", "doubt 1 = 0",
        "doubt 2 = 1");
    edge("28 all ten left out", "2 times tale 0 9 1 1", "10 times mention 0 1 10", "doubt 0 = 10", "doubt 1 = 1023", "doubt 2 = 1");
    edge("28 the tenth alone", "2 times tale 0 9 1 1", "9 times mention 0 1 9", "mention 1 0 0", "doubt 0 = 1", "doubt 1 = 512",
        "doubt 2 = 1");
    edge("28 five of ten in any way", "10 times tale 0 9 1 1", "mention 0 1 1", "mention 1 0 0", "mention 2 3 1", "mention 3 2 0",
        "mention 4 5 1", "mention 5 4 0", "mention 6 7 1", "mention 7 6 0", "mention 8 9 1", "mention 9 8 0", "doubt 0 = 5",
        "doubt 1 = 341", "doubt 2 = 32");
    edge("28 the fewest, not the lowest", "3 times tale 0 9 1 1", "mention 0 1 1", "mention 0 1 2", "mention 1 0 0", "doubt 0 = 1",
        "doubt 1 = 4", "doubt 2 = 1");
    edge("28 the lowest of the fewest", "3 times tale 0 9 1 1", "mention 0 1 5", "mention 1 2 5", "doubt 0 = 1", "doubt 1 = 1",
        "doubt 2 = 2");
  }

  private static void claim() {
    edge("29 year, the first and the last", "tale 0 9 1 1", "claim 0 0 0 = 1", "claim 0 2000 0 = 2", "status = 0");
    edge("29 year below 0, above 2000", "tale 0 9 1 1", "claim 0 -1 0 = -1", "claim 0 2001 0 = -1", "claim 0 2147483647 0 = -1",
        "claim 0 -2147483648 0 = -1", "count 6 = 4", "count 4 = 0", "status = -1");
    edge("29 teller, the first and the last, there or not", "tale 0 9 1 1", "claim 0 5 0 = 1", "claim 0 5 3 = 2", "status = 0",
        "terms 0 1", "claim 0 5 3 = 3");
    edge("29 teller below 0, above 3", "tale 0 9 1 1", "claim 0 5 -1 = -1", "claim 0 5 4 = -1", "claim 0 5 2147483647 = -1",
        "claim 0 5 -2147483648 = -1", "count 6 = 4", "count 4 = 0");
    edge("29 no such tale", "tale 0 9 1 1", "claim 1 5 0 = -2", "claim -1 5 0 = -2", "claim 10 5 0 = -2", "claim 2147483647 5 0 = -2",
        "claim -2147483648 5 0 = -2", "count 7 = 5", "count 4 = 0", "status = -2");
    edge("29 the last tale", "10 times tale 0 9 1 1", "claim 9 5 0 = 1", "claim 10 5 0 = -2");
    edge("29 the tenth is the last", "tale 0 9 1 1", "9 times claim 0 5 0", "claim 0 5 0 = 10", "status = 0", "claim 0 5 0 = -5",
        "status = -5", "count 9 = 1", "count 4 = 10");
    edge("29 -1 is ahead of -2, -5", "claim 0 2001 0 = -1", "claim 0 5 4 = -1", "tale 0 9 1 1", "10 times claim 0 5 0",
        "claim 0 5 4 = -1", "count 6 = 3", "count 7 = 0", "count 9 = 0");
    edge("29 -2 is ahead of -5", "tale 0 9 1 1", "10 times claim 0 5 0", "claim 1 5 0 = -2", "count 7 = 1", "count 9 = 0");
    edge("29 a wrong one is taken", "tale 5 9 1 0", "claim 0 4 3 = 1", "wrong = 0");
    edge("30 none", "clear = 0", "count 4 = 0");
    edge("30 all ten", "tale 0 9 1 1", "10 times claim 0 5 0", "clear = 10", "count 4 = 0", "clear = 0", "wrong = -1", "liars = 0",
        "claim 0 5 0 = 1");
    edge("30 is no call that status tells of", "force 5 = -2", "clear = 0", "status = -2");
  }

  private static void wrong() {
    edge("31 none", "wrong = -1", "tale 0 9 1 1", "claim 0 9 0", "wrong = -1");
    edge("31 the span, its first and its last year", "tale 4 6 1 1", "claim 0 4 0", "wrong = -1", "clear", "claim 0 6 0", "wrong = -1");
    edge("31 a year ahead of the span, behind it", "tale 4 6 1 1", "claim 0 3 0", "wrong = 0", "clear", "claim 0 7 0", "wrong = 0");
    edge("31 the first in any year of its span, not the last alone", "tale 4 6 1 1", "claim 0 5 0", "wrong = -1");
    edge("31 just the gap, one less", "2 times tale 0 90 1 1", "type gap 7", "law", "force 0", "claim 0 50 0", "claim 1 43 0",
        "wrong = -1", "clear", "claim 0 50 0", "claim 1 44 0", "wrong = 1", "clear", "claim 0 50 0", "claim 1 3 0", "wrong = -1");
    edge("31 a year ahead, the same year", "2 times tale 0 90 1 1", "claim 0 50 0", "claim 1 49 0", "wrong = -1", "clear",
        "claim 0 50 0", "claim 1 50 0", "wrong = 1");
    edge("31 its own gap", "2 times tale 0 90 1 1", "type gap 7 if tale=0", "law", "force 0", "claim 0 50 0", "claim 1 49 0",
        "wrong = -1", "clear", "claim 1 50 0", "claim 0 44 0", "wrong = 1");
    edge("31 he does not know it, is barred", "tale 0 9 1 1", "claim 0 9 1", "wrong = 0", "put 0 3 2", "wrong = -1", "type bars", "law",
        "force 0", "wrong = 0");
    edge("31 the last teller there is, one that is not there", "tale 0 9 1 15", "claim 0 9 1", "wrong = -1", "clear",
        "claim 0 9 2", "wrong = 0", "terms 0 3", "wrong = -1");
    edge("31 twice", "3 times tale 0 90 1 3", "claim 0 50 0", "claim 1 40 0", "wrong = -1", "terms 1 0", "wrong = 1", "clear",
        "claim 0 50 0", "claim 1 40 1", "claim 2 30 0", "wrong = -1");
    edge("31 twice by the second teller", "2 times tale 0 90 1 2", "claim 0 50 1", "claim 1 40 1", "wrong = -1", "terms 1 0", "wrong = 1");
    edge("31 the last tale told already", "10 times tale 0 90 1 1", "claim 9 50 0", "claim 8 40 0", "claim 9 30 0", "wrong = 2");
    edge("31 told already", "2 times tale 0 90 1 1", "claim 0 50 0", "claim 0 40 0", "wrong = 1", "clear", "claim 0 50 0",
        "claim 1 40 0", "claim 0 30 0", "wrong = 2");
    edge("31 the first of two", "2 times tale 0 90 1 1", "claim 0 91 0", "claim 1 91 0", "wrong = 0");
    edge("31 the tenth", "10 times tale 0 90 1 1", "claim 0 90 0", "claim 1 80 0", "claim 2 70 0", "claim 3 60 0", "claim 4 50 0",
        "claim 5 40 0", "claim 6 30 0", "claim 7 20 0", "claim 8 10 0", "claim 9 0 0", "wrong = -1", "liars = 1023", "put 9 0 1",
        "wrong = 9", "liars = 512");
    edge("31 what was told is another row", "2 times tale 0 90 1 1", "tell 0 0", "claim 0 90 0", "claim 1 89 0", "wrong = -1");
    edge("31 the year 0, 2000", "tale 2000 2000 1 1", "tale 0 0 1 1", "claim 0 2000 0", "claim 1 0 0", "wrong = -1");
  }

  private static void liars() {
    edge("32 no claims", "liars = 0");
    edge("32 one that is wrong", "tale 4 6 1 1", "claim 0 3 0", "liars = 1");
    edge("32 one that is not wrong", "tale 4 6 1 1", "claim 0 4 0", "liars = 1");
    edge("32 either of two", "2 times tale 0 90 1 1", "claim 0 50 0", "claim 1 50 0", "liars = 3");
    edge("32 two that are wrong by themselves", "2 times tale 4 6 1 1", "claim 0 3 0", "claim 1 3 0", "liars = 0");
    edge("32 told already: either, not what is between", "3 times tale 0 90 1 1", "claim 0 50 0", "claim 1 40 0", "claim 0 30 0",
        "liars = 5");
    edge("32 who told the one ahead, if the one between is left out", "3 times tale 0 90 1 3", "terms 1 0", "claim 0 50 0",
        "claim 1 40 1", "claim 2 30 0", "liars = 5");
    edge("32 the year ahead, if the one between is left out", "3 times tale 0 90 1 1", "claim 0 50 0", "claim 1 30 0", "claim 2 40 0",
        "wrong = 2", "liars = 6");
    edge("32 the tenth of ten", "tale 0 90 1 1", "10 times claim 0 91 0", "liars = 0");
  }

  private static void draw() {
    edge("33 seed, the first and the last", "tale 0 9 1 1", "draw 0 = 1", "draw 1000000 = 1", "status = 0");
    edge("33 seed below 0, above 1,000,000", "tale 0 9 1 1", "draw -1 = -1", "draw 1000001 = -1", "draw 2147483647 = -1",
        "draw -2147483648 = -1", "count 6 = 4", "status = -1", "drawn 0 0 = -1");
    // 12345 of 40 is 25: the tale 6, by 1. Then 628841 of 36 is 29: the eighth one left, 8, by 1.
    edge("33 seed 0", "10 times tale 0 99 1 15", "terms 0 4", "draw 0 = 10", "drawn 0 0 = 6", "drawn 0 1 = 99", "drawn 0 2 = 1",
        "drawn 1 0 = 8", "drawn 1 1 = 98", "drawn 1 2 = 1", "drawn 9 1 = 90", "drawn 10 0 = -1");
    // 9036 of 40 is 36: the tale 9, by 0. Then 979026 of 36 is 6: the tale 1, by 2.
    edge("33 seed 1,000,000", "10 times tale 0 99 1 15", "terms 0 4", "draw 1000000 = 10", "drawn 0 0 = 9", "drawn 0 2 = 0",
        "drawn 1 0 = 1", "drawn 1 2 = 2");
    edge("33 no tale can be told", "tale 0 9 1 12", "draw 5 = 0", "status = 0", "drawn 0 0 = -1");
    edge("33 behind the year 0", "tale 0 0 1 1", "tale 0 9 1 1", "tell 0 0 = 0", "draw 5 = 0", "drawn 0 0 = -1");
    edge("33 behind what was told, on paper", "tale 9 9 1 1", "tale 0 20 1 1", "tell 0 0", "draw 5 = 1", "drawn 0 0 = 1",
        "drawn 0 1 = 8", "drawn 1 0 = -1", "count 2 = 1", "heard 1 0 = -1", "goes 2 = 1");
    edge("33 just the gap, one less", "tale 9 9 1 1", "tale 4 20 1 1", "tale 5 20 1 1", "type gap 5", "law", "force 0", "tell 0 0",
        "draw 5 = 1", "drawn 0 0 = 1", "drawn 0 1 = 4");
    edge("33 twice is 0", "tale 0 9 1 1", "tale 0 9 1 1", "draw 5 = 2", "terms 1 0", "draw 5 = 1", "tell 0 0", "draw 5 = 0");
    edge("33 twice is 0: by turns", "4 times tale 0 9 1 3", "terms 1 0", "tell 0 1", "draw 5 = 3", "drawn 0 2 = 0", "drawn 1 2 = 1",
        "drawn 2 2 = 0");
    // 13448 of 1, which is a draw, too; then 845447 of 2 is 1 (13448 of 2 would be 0).
    edge("33 a draw of one", "tale 0 90 1 2", "tale 0 80 1 1", "tale 0 70 1 2", "tale 0 70 1 2", "terms 1 0", "tell 0 1 = 90",
        "draw 1 = 2", "drawn 0 0 = 1", "drawn 0 1 = 80", "drawn 1 0 = 3", "drawn 1 1 = 70", "drawn 2 0 = -1");
    edge("33 the latest one alone", "2 times tale 0 9 1 1", "draw 5 = 2", "put 0 3 0", "draw 5 = 1", "drawn 0 0 = 1", "drawn 1 0 = -1");
    edge("34 no such one", "tale 0 9 1 1", "draw 5 = 1", "drawn 0 0 = 0", "drawn 1 0 = -1", "drawn -1 0 = -1",
        "drawn 2147483647 0 = -1", "drawn -2147483648 0 = -1");
    edge("34 no such what", "tale 0 9 1 1", "draw 5 = 1", "drawn 0 2 = 0", "drawn 0 3 = -1", "drawn 0 -1 = -1", "drawn 0 2147483647 = -1");
    edge("34 none is not refused", "drawn 0 0 = -1", "status = 0", "count 6 = 0");
    edge("34 stays behind a draw that was refused", "tale 0 9 1 1", "draw 5 = 1", "draw -1 = -1", "drawn 0 0 = 0", "drawn 0 1 = 9");
    edge("34 stays whatever changes", "tale 0 9 1 1", "draw 5 = 1", "put 0 1 4", "tell 0 0 = 4", "hush", "drawn 0 1 = 9");
  }

  private static void image() {
    edge("35 the first and the last image", "image 0 = 0", "image 1 = 0", "status = 0");
    edge("35 no such image", "image 2 = -1", "image -1 = -1", "image 2147483647 = -1", "image -2147483648 = -1", "count 6 = 4",
        "status = -1");
    edge("36 no such image", "back 2 = -1", "back -1 = -1", "back 2147483647 = -1", "back -2147483648 = -1", "count 6 = 4",
        "count 7 = 0", "status = -1");
    edge("36 it was not kept", "back 0 = -2", "status = -2", "image 0", "back 0 = 0", "status = 0", "back 1 = -2", "count 7 = 2");
    edge("36 an image of nothing", "image 1 = 0", "tale 0 9 1 1", "back 1 = 0", "count 0 = 0", "tale 1 9 1 1 = 0", "of 0 0 = 1");
    edge("36 images stay", "image 0", "tale 0 9 1 1", "image 1", "back 0", "count 0 = 0", "back 1", "count 0 = 1", "back 0",
        "count 0 = 0", "back 1", "count 0 = 1");
    edge("35 kept anew", "image 0", "tale 0 9 1 1", "image 0", "tale 0 9 1 1", "back 0", "count 0 = 1");
    edge("36 what comes behind back is not in the image", "tale 0 9 1 3", "image 0", "back 0", "put 0 2 7", "tell 0 0", "claim 0 1 1",
        "back 0", "of 0 2 = 1", "count 2 = 0", "count 4 = 0");
    edge("36 tales, all four of each", "tale 1 9 2 3", "image 0", "put 0 0 5", "put 0 1 6", "put 0 2 7", "put 0 3 8", "back 0",
        "of 0 0 = 1", "of 0 1 = 9", "of 0 2 = 2", "of 0 3 = 3");
    edge("36 terms", "image 0", "terms 0 4", "terms 1 0", "terms 2 9", "back 0", "count 12 = 2", "count 13 = 1", "count 14 = 0");
    edge("36 laws, which is in force", "tale 0 9 2 3", "type worth 5", "law", "force 0", "image 0", "type worth 6", "law = 1",
        "force 1 = 0", "of 0 4 = 6", "back 0", "count 1 = 1", "count 11 = 0", "of 0 4 = 5", "force 1 = -2", "type worth 7",
        "law = 1", "force 1", "of 0 4 = 7");
    edge("36 laws of one number", "tale 0 9 2 3", "image 0", "type worth 5", "law = 0", "force 0", "image 1", "back 0", "count 1 = 0",
        "count 11 = -1", "of 0 4 = 2", "type worth 6", "law = 0", "force 0", "of 0 4 = 6", "back 1", "of 0 4 = 5");
    edge("36 the sixth laws of one number", "tale 0 9 2 3", "type bars", "law", "type bars", "law", "type bars", "law", "type bars",
        "law", "type bars", "law", "image 0", "type worth 5", "law = 5", "force 5", "image 1", "back 0", "count 1 = 5", "type worth 6",
        "law = 5", "force 5", "of 0 4 = 6", "back 1", "of 0 4 = 5", "count 1 = 6");
    edge("36 room for laws as then", "image 0", "type bars", "law", "type bars", "law", "type bars", "law", "type bars", "law",
        "type bars", "law", "type bars", "law = 5", "type bars", "law = -5", "back 0", "type bars", "law = 0");
    edge("36 what was told, with year and teller", "tale 0 9 2 3", "tale 0 9 2 3", "terms 1 0", "tell 0 1", "image 0", "hush",
        "tell 1 0", "tell 0 1", "back 0", "count 2 = 1", "heard 0 0 = 0", "heard 0 1 = 9", "heard 0 2 = 1", "heard 1 0 = -1",
        "tell 1 1 = -3", "tell 1 0 = 8");
    edge("36 mentions", "2 times tale 0 9 1 1", "mention 0 1 3", "image 0", "forget", "mention 1 0 4", "mention 1 0 4", "back 0",
        "count 3 = 1", "dated 1 0 = 3", "dated 0 0 = 0", "mention 0 1 9 = 2");
    edge("36 claims", "2 times tale 0 9 1 1", "claim 0 5 0", "image 0", "clear", "claim 1 10 0", "claim 1 10 3", "back 0", "count 4 = 1",
        "wrong = -1", "claim 0 4 0 = 2", "wrong = 1");
    edge("36 the tape is not kept", "type bars", "image 0", "end 0", "type worth 3", "back 0", "count 5 = 7", "law = 0", "tale 0 9 1 1",
        "force 0", "of 0 4 = 3");
    edge("36 fault is not kept", "type bars ?", "law", "image 0", "type ?", "law", "fault = 0", "back 0", "fault = 0");
    edge("36 mumbled is not kept", "bytes 1", "row", "image 0", "bytes 1 2 3 4 5 16 7", "row = 0", "mumbled = 2", "back 0", "mumbled = 2");
    edge("36 the drawn evening is not kept", "tale 0 9 1 1", "image 0", "draw 5 = 1", "back 0", "drawn 0 0 = 0", "drawn 0 1 = 9");
    edge("36 nor is it lost with its tales", "image 0", "tale 0 9 1 1", "draw 5 = 1", "back 0", "count 0 = 0", "drawn 0 0 = 0",
        "drawn 0 1 = 9", "drawn 0 2 = 0");
    edge("36 what was refused is not kept", "image 0", "tale -1 0 0 0", "put 0 0 0", "row", "back 0", "count 6 = 1", "count 7 = 1",
        "count 10 = 1", "status = 0");
    edge("36 all that is full", "10 times tale 0 9 1 1", "10 times mention 0 1 1", "10 times claim 0 5 0", "image 1", "forget", "clear",
        "back 1", "count 0 = 10", "count 3 = 10", "count 4 = 10", "tale 0 9 1 1 = -5", "mention 0 1 1 = -5", "claim 0 5 0 = -5");
  }

  private static void count() {
    edge("37 no such what", "count -1 = -1", "count 15 = -1", "count 2147483647 = -1", "count -2147483648 = -1", "status = 0",
        "count 6 = 0");
    edge("37 the first and the last", "tale 0 9 1 1", "terms 2 7", "count 0 = 1", "count 14 = 7");
    edge("37 refused by -1, by each that can be", "tale -1 0 0 0", "put 0 9 0", "terms 9 0", "tell 0 9", "mention 0 1 -1",
        "claim 0 -1 0", "draw -1", "image 9", "back 9", "count 6 = 9", "count 7 = 0", "count 8 = 0", "count 9 = 0", "count 10 = 0");
    edge("37 refused by -2, by each that can be", "put 0 0 0", "force 0", "tell 0 0", "mention 0 1 1", "claim 0 0 0", "back 0",
        "count 6 = 0", "count 7 = 6", "count 8 = 0", "count 9 = 0", "count 10 = 0");
    edge("37 refused by -3, by each that can be", "tale 0 9 1 0", "tell 0 0", "mention 0 0 0", "count 6 = 0", "count 7 = 0",
        "count 8 = 2", "count 9 = 0", "count 10 = 0");
    edge("37 refused by -5, by each that can be", "10 times tale 0 9 1 1", "tale 0 9 1 1", "11 times mention 0 1 0",
        "11 times claim 0 1 0", "type bars", "law", "type bars", "law", "type bars", "law", "type bars", "law", "type bars", "law",
        "type bars", "law", "law", "count 6 = 0", "count 7 = 0", "count 8 = 0", "count 9 = 4", "count 10 = 0");
    edge("37 refused by -6, by each that can be", "row", "law", "count 6 = 0", "count 7 = 0", "count 8 = 0", "count 9 = 0",
        "count 10 = 2");
    edge("37 none in force, none told", "count 11 = -1", "count 2 = 0");
    edge("37 many", "300 times draw -1", "count 6 = 300");
  }

  private static void status() {
    edge("38 ahead of any", "status = 0", "of 0 0 = -1", "feed 1 2 3 4 5", "status = 0");
    edge("38 tale", "tale -1 0 0 0", "status = -1", "tale 0 0 0 0", "status = 0");
    edge("38 put", "put 0 0 0", "status = -2", "tale 0 9 1 1", "put 0 9 9", "status = -1", "put 0 0 0", "status = 0");
    edge("38 terms", "terms 9 9", "status = -1", "terms 0 1", "status = 0");
    edge("38 row", "row", "status = -6", "bytes 1", "row", "status = 0");
    edge("38 law", "law", "status = -6", "type bars", "law", "status = 0");
    edge("38 force", "force 1", "status = -2", "force -1 = -1", "status = 0");
    edge("38 tell", "tell 0 0", "status = -2", "tale 0 9 1 1", "tell 0 1", "status = -3", "tell 0 0", "status = 0");
    edge("38 mention", "2 times tale 0 9 1 1", "mention 0 0 0", "status = -3", "mention 0 1 0", "status = 0");
    edge("38 claim", "claim 0 0 0", "status = -2", "tale 0 9 1 1", "claim 0 0 0", "status = 0");
    edge("38 draw", "draw -1", "status = -1", "draw 0", "status = 0");
    edge("38 image, back", "image 2", "status = -1", "back 0", "status = -2", "image 0", "status = 0", "back 7", "status = -1",
        "back 0", "status = 0");
    edge("38 other calls leave what was refused", "tale 0 9 1 3", "tell 9 0 = -2", "of 0 0", "can 0 0", "feed 1 2 3 4 5", "end 0",
        "mumbled", "fault", "hush", "heard 0 0", "open", "goes 1", "best 0 0", "order 1 0 0", "orders 1", "duel 0", "winter 1 0",
        "learn 0 0", "forget", "dated 0 0", "doubt 0", "clear", "wrong", "liars", "drawn 0 0", "count 0", "status = -2",
        "count 7 = 1");
    edge("38 other calls leave what was taken", "tale 0 9 1 3", "of 9 9", "can 9 9", "end -1", "heard 9 9", "goes -1", "best 9 9",
        "order -1 9 9", "orders -1", "duel 9", "winter 9 9", "learn 9 9", "dated 9 9", "doubt 9", "drawn 9 9", "count 99",
        "status = 0", "count 6 = 0", "count 7 = 0", "count 8 = 0", "count 9 = 0", "count 10 = 0");
  }

  public static void main(String[] args) {
    mention();
    dated();
    doubt();
    claim();
    wrong();
    liars();
    draw();
    image();
    count();
    status();
    EDGES.finish();
  }
}
