/** The boundary cases of promises 14 to 24: tell, hush, heard, open, goes, best, order, orders, duel, winter, learn. */
public final class EveningsEdgesTest {
  private static final Edges EDGES = new Edges();

  private static void edge(String title, String... lines) {
    EDGES.edge(title, lines);
  }

  private static void tell() {
    edge("14 the first and the last teller there is", "tale 0 9 1 15", "tale 0 8 1 15", "tell 0 1 = 9", "tell 1 0 = 8");
    edge("14 no such teller", "tale 0 9 1 15", "tell 0 2 = -1", "tell 0 -1 = -1", "tell 0 4 = -1", "tell 0 2147483647 = -1",
        "tell 0 -2147483648 = -1", "count 6 = 5", "status = -1", "count 2 = 0");
    edge("14 four tellers", "tale 0 9 1 15", "terms 0 4", "tell 0 4 = -1", "tell 0 3 = 9");
    edge("14 one teller", "tale 0 9 1 15", "terms 0 1", "tell 0 1 = -1", "tell 0 0 = 9");
    edge("14 no such tale", "tale 0 9 1 15", "tell 1 0 = -2", "tell -1 0 = -2", "tell 10 0 = -2", "tell 2147483647 0 = -2",
        "tell -2147483648 0 = -2", "count 7 = 5", "status = -2", "count 2 = 0");
    edge("14 no such teller ahead of no such tale", "tell 0 2 = -1", "tell 0 0 = -2", "count 6 = 1", "count 7 = 1");
    edge("14 no such teller ahead of what can't be", "tale 0 9 1 0", "tell 0 2 = -1", "tell 0 0 = -3");
    edge("14 he does not know it", "tale 0 9 1 2", "tell 0 0 = -3", "status = -3", "count 8 = 1", "count 2 = 0", "tell 0 1 = 9");
    edge("14 he is barred from it", "tale 0 9 1 3", "type bars if teller=0", "law", "force 0", "tell 0 0 = -3", "tell 0 1 = 9");
    edge("14 it was told", "tale 0 9 1 3", "tell 0 0 = 9", "tell 0 0 = -3", "tell 0 1 = -3", "count 2 = 1", "count 8 = 2");
    edge("14 it was told two ahead", "tale 0 9 1 3", "tale 0 9 1 3", "tell 0 0 = 9", "tell 1 0 = 8", "tell 0 0 = -3", "count 2 = 2");
    edge("14 the first one in its last year", "tale 3 2000 1 3", "tell 0 0 = 2000");
    edge("14 the first one, whatever its gap", "tale 3 5 1 3", "type gap 999", "law", "force 0", "tell 0 0 = 5");
    edge("14 one year ahead, the last year of its span that is left", "tale 10 10 1 1", "tale 9 50 1 1", "tell 0 0 = 10",
        "tell 1 0 = 9");
    edge("14 one year too late", "tale 10 10 1 1", "tale 10 50 1 1", "tell 0 0 = 10", "tell 1 0 = -3", "count 8 = 1");
    edge("14 its last year is early enough", "tale 10 10 1 1", "tale 0 9 1 1", "tell 0 0 = 10", "tell 1 0 = 9");
    edge("14 its last year is far ahead", "tale 10 10 1 1", "tale 0 3 1 1", "tell 0 0 = 10", "tell 1 0 = 3");
    edge("14 the year 0", "tale 1 1 1 1", "tale 0 0 1 1", "tale 0 9 1 1", "tell 0 0 = 1", "tell 1 0 = 0", "tell 2 0 = -3");
    edge("14 just the gap", "tale 1000 1000 1 1", "tale 1 2000 1 1", "type gap 999", "law", "force 0", "tell 0 0 = 1000",
        "tell 1 0 = 1");
    edge("14 one year less than the gap", "tale 1000 1000 1 1", "tale 2 2000 1 1", "type gap 999", "law", "force 0",
        "tell 0 0 = 1000", "tell 1 0 = -3");
    edge("14 its own gap, not that of the one ahead", "tale 50 50 1 1", "tale 0 50 1 1", "tale 0 50 1 1", "type gap 10 if tale=1",
        "law", "force 0", "tell 0 0 = 50", "tell 1 0 = 40", "tell 2 0 = 39");
    edge("14 twice is 1", "tale 0 9 1 1", "tale 0 9 1 1", "tell 0 0 = 9", "tell 1 0 = 8");
    edge("14 twice is 0", "tale 0 9 1 3", "tale 0 9 1 3", "tale 0 9 1 3", "terms 1 0", "tell 0 0 = 9", "tell 1 0 = -3",
        "tell 1 1 = 8", "tell 2 1 = -3", "tell 2 0 = 7");
    edge("14 the first one by anybody, though twice is 0", "tale 0 9 1 1", "terms 1 0", "tell 0 0 = 9");
    edge("14 who told the one ahead has gone", "tale 0 9 1 15", "tale 0 9 1 15", "terms 0 4", "terms 1 0", "tell 0 3 = 9",
        "terms 0 1", "tell 1 3 = -1", "tell 1 0 = 8", "heard 0 2 = 3");
    edge("14 ten tales", "10 times tale 0 9 1 1", "tell 9 0 = 9", "tell 8 0 = 8", "tell 7 0 = 7", "tell 6 0 = 6", "tell 5 0 = 5",
        "tell 4 0 = 4", "tell 3 0 = 3", "tell 2 0 = 2", "tell 1 0 = 1", "tell 0 0 = 0", "count 2 = 10", "tell 0 0 = -3",
        "open = 0", "heard 9 0 = 0", "heard 9 1 = 0", "heard 10 0 = -1", "best 0 3 = 1", "hush = 10", "count 2 = 0");
  }

  private static void hushAndHeard() {
    edge("15 nothing was told", "hush = 0", "count 2 = 0");
    edge("15 once more", "tale 0 9 1 1", "tell 0 0", "hush = 1", "hush = 0", "heard 0 0 = -1");
    edge("15 all can be told again in any year", "tale 0 9 1 1", "tale 0 9 1 1", "terms 1 0", "tell 0 0", "hush = 1", "tell 0 0 = 9",
        "hush = 1", "tell 1 0 = 9");
    edge("15 is no call that status tells of", "tell 0 0 = -2", "hush = 0", "status = -2");
    edge("16 the first and the last", "tale 0 9 1 3", "tale 0 7 1 3", "tell 1 1", "tell 0 0", "heard 0 0 = 1", "heard 0 1 = 7",
        "heard 0 2 = 1", "heard 1 0 = 0", "heard 1 1 = 6", "heard 1 2 = 0");
    edge("16 no such one", "tale 0 9 1 3", "heard 0 0 = -1", "tell 0 1", "heard 1 0 = -1", "heard -1 0 = -1",
        "heard 2147483647 0 = -1", "heard -2147483648 0 = -1");
    edge("16 no such what", "tale 0 9 1 3", "tell 0 1", "heard 0 3 = -1", "heard 0 -1 = -1", "heard 0 2147483647 = -1");
    edge("16 none is not refused", "heard 0 0 = -1", "status = 0", "count 6 = 0");
  }

  private static void open() {
    edge("17 all ten", "10 times tale 0 9 1 1", "open = 1023");
    edge("17 the tenth alone", "9 times tale 0 9 1 0", "tale 0 9 1 1", "open = 512");
    edge("17 known by nobody there", "tale 0 9 1 12", "open = 0", "terms 0 3", "open = 1");
    edge("17 barred from all", "tale 0 9 1 3", "type bars", "law", "force 0", "open = 0", "force -1", "open = 1");
    edge("17 what was told", "tale 0 9 1 1", "tale 0 9 1 1", "tell 0 0", "open = 2", "tell 1 0", "open = 0");
    edge("17 just early enough", "tale 9 9 1 1", "tale 8 20 1 1", "tale 9 20 1 1", "tell 0 0", "open = 2");
    edge("17 just the gap", "tale 9 9 1 1", "tale 4 20 1 1", "tale 5 20 1 1", "type gap 5", "law", "force 0", "open = 7", "tell 0 0",
        "open = 2");
    edge("17 behind the year 0", "tale 0 0 1 1", "tale 0 9 1 1", "tell 0 0 = 0", "open = 0");
    edge("17 twice is 0", "tale 0 9 1 3", "tale 0 9 1 1", "tale 0 9 1 2", "tale 0 9 1 3", "terms 1 0", "open = 15", "tell 0 0",
        "open = 12", "hush", "tell 0 1", "open = 10");
  }

  private static void goes() {
    edge("18 none always goes on", "goes 0 = 1", "tale 0 0 1 1", "goes 0 = 1", "tell 0 0", "goes 0 = 1");
    edge("18 all ten", "10 times tale 0 9 1 1", "goes 1023 = 1", "put 9 0 9", "goes 1023 = 1", "put 8 0 9", "goes 1023 = 0",
        "goes 511 = 1", "goes 767 = 1");
    edge("18 one year too few", "10 times tale 0 8 1 1", "goes 1023 = 0", "goes 511 = 1", "goes 1022 = 1");
    edge("18 some are not there", "tale 0 9 1 1", "goes 1 = 1", "goes 2 = -1", "goes 3 = -1", "goes 1024 = -1", "goes -1 = -1",
        "goes -2147483648 = -1", "goes -2147483647 = -1", "goes 2147483647 = -1");
    edge("18 beyond all ten", "10 times tale 0 9 1 1", "goes 512 = 1", "goes 1024 = -1", "goes 1025 = -1", "goes 2047 = -1");
    edge("18 some are told", "tale 0 9 1 1", "tale 0 9 1 1", "tell 0 0", "goes 1 = -1", "goes 3 = -1", "goes 2 = 1");
    edge("18 none is not refused", "goes 5 = -1", "status = 0", "count 6 = 0", "count 7 = 0", "count 8 = 0");
    edge("18 one that nobody can tell", "tale 0 9 1 1", "tale 0 9 1 12", "goes 1 = 1", "goes 2 = 0", "goes 3 = 0");
    edge("18 just a year ahead", "tale 10 10 1 1", "tale 9 9 1 1", "goes 3 = 1", "put 1 1 10", "put 1 0 10", "goes 3 = 0");
    edge("18 just the gap", "tale 10 10 1 1", "tale 5 5 1 1", "type gap 5 if tale=1", "law", "force 0", "goes 3 = 1",
        "put 1 1 6", "put 1 0 6", "goes 3 = 0");
    edge("18 the gap of the later one alone", "tale 10 10 1 1", "tale 9 9 1 1", "type gap 5 if tale=0", "law", "force 0",
        "goes 3 = 1");
    edge("18 behind what was told", "tale 10 10 1 1", "tale 9 20 1 1", "tale 10 20 1 1", "tell 0 0", "goes 2 = 1", "goes 4 = 0");
    edge("18 twice is 0", "tale 0 9 1 1", "tale 0 9 1 1", "tale 0 9 1 2", "goes 3 = 1", "terms 1 0", "goes 3 = 0", "goes 5 = 1",
        "goes 7 = 1", "put 2 1 0", "goes 7 = 0");
    edge("18 twice is 0 behind what was told", "tale 0 9 1 3", "tale 0 9 1 1", "terms 1 0", "tell 0 0", "goes 2 = 0", "hush",
        "tell 0 1", "goes 2 = 1");
    edge("18 told by a third one", "tale 0 9 1 15", "tale 0 9 1 1", "terms 0 3", "terms 1 0", "tell 0 2", "goes 2 = 1");
    edge("18 twice is 0 and only one of two tellers knows them", "2 times tale 0 9 1 2", "terms 1 0", "goes 1 = 1", "goes 3 = 0");
    edge("18 by whom it can begin latest", "tale 0 9 1 3", "tale 8 9 1 3", "tale 9 9 1 2", "terms 1 0", "tell 2 1 = 9", "goes 3 = 1",
        "order 3 0 0 = 1", "order 3 0 2 = 0");
    edge("18 by whom else it has to begin", "tale 0 9 1 1", "tale 8 9 1 2", "tale 10 10 1 2", "terms 1 0", "tell 2 1 = 10",
        "goes 3 = 1", "order 3 0 0 = 0", "hush", "put 2 0 9", "put 2 1 9", "tell 2 1 = 9", "goes 3 = 0", "goes 1 = 1");
    edge("18 the year 0 is a year", "tale 1 1 1 1", "tale 0 0 1 1", "goes 3 = 1", "tell 0 0", "goes 2 = 1");
  }

  private static void best() {
    edge("19 no such by", "best 2 0 = -1", "best -1 0 = -1", "best 2147483647 0 = -1", "best -2147483648 0 = -1");
    edge("19 no such what", "best 0 4 = -1", "best 0 -1 = -1", "best 1 4 = -1", "best 1 2147483647 = -1");
    edge("19 none is not refused", "best 2 0 = -1", "status = 0", "count 6 = 0");
    edge("19 all ten", "10 times tale 0 9 99 1", "best 0 0 = 990", "best 0 1 = 10", "best 0 2 = 1023", "best 0 3 = 1",
        "best 1 0 = 990", "best 1 1 = 10", "best 1 2 = 1023", "best 1 3 = 1");
    edge("19 the most worth that can be", "10 times tale 0 9 99 1", "type worth 2000", "law", "force 0", "best 0 0 = 9990",
        "best 1 0 = 9990");
    edge("19 all worth nothing: the lowest is none", "10 times tale 0 9 0 1", "best 0 0 = 0", "best 0 1 = 0", "best 0 2 = 0",
        "best 0 3 = 1024", "best 1 1 = 10", "best 1 2 = 1023", "best 1 3 = 1");
    edge("19 the lowest as bits, not the fewest", "tale 5 5 3 1", "tale 4 4 3 1", "tale 5 5 6 1", "tale 4 4 0 1", "best 0 0 = 9",
        "best 0 2 = 6", "put 2 2 3", "best 0 0 = 6", "best 0 2 = 3", "best 0 3 = 2");
    edge("19 one of much worth, two of none", "tale 1000 1000 99 1", "tale 1000 1000 0 1", "tale 500 500 0 1",
        "type worth 999 if base=99;gap 999 if base=99;gap 500 if base=0", "law", "force 0", "put 0 0 800", "put 0 1 800",
        "best 0 0 = 999", "best 0 1 = 1", "best 0 2 = 1", "best 0 3 = 1", "best 1 0 = 0", "best 1 1 = 2", "best 1 2 = 6",
        "best 1 3 = 1");
    edge("19 of as many the most worth", "tale 5 5 3 1", "tale 5 5 4 1", "best 1 0 = 4", "best 1 2 = 2", "best 1 3 = 1");
    edge("19 of as many and as much the lowest", "tale 5 5 4 1", "tale 5 5 4 1", "tale 5 5 4 1", "best 1 2 = 1", "best 1 3 = 3");
    edge("19 what is told aside", "tale 5 5 40 1", "tale 4 4 7 1", "best 0 0 = 47", "tell 0 0", "best 0 0 = 7", "best 0 1 = 1",
        "best 0 2 = 2", "best 1 1 = 1");
    edge("19 nothing can be told any more", "tale 5 5 40 1", "tale 5 5 7 1", "tell 0 0", "best 0 0 = 0", "best 0 2 = 0",
        "best 0 3 = 1", "best 1 1 = 0", "best 1 3 = 1");
    edge("19 all were told", "tale 5 5 40 1", "tell 0 0", "best 0 0 = 0", "best 1 1 = 0", "best 0 3 = 1");
    edge("19 one worth nothing may be with them or not", "tale 5 5 40 1", "tale 4 4 0 1", "best 0 1 = 1", "best 0 2 = 1",
        "best 0 3 = 2", "best 1 2 = 3", "best 1 3 = 1");
  }

  private static void order() {
    edge("20 the first and the last one", "10 times tale 0 99 1 1", "order 1023 0 0 = 0", "order 1023 0 1 = 99",
        "order 1023 9 0 = 9", "order 1023 9 1 = 90", "order 1023 9 2 = 0", "order 1023 10 0 = -1");
    edge("20 no such one", "tale 0 9 1 1", "tale 0 9 1 1", "order 3 2 0 = -1", "order 3 -1 0 = -1", "order 1 1 0 = -1",
        "order 3 2147483647 0 = -1", "order 3 -2147483648 1 = -1");
    edge("20 no such what", "tale 0 9 1 1", "order 1 0 2 = 0", "order 1 0 3 = -1", "order 1 0 -1 = -1", "order 1 0 2147483647 = -1");
    edge("20 none has no first one", "tale 0 9 1 1", "order 0 0 0 = -1", "order 0 -1 0 = -1");
    edge("20 none behind a set that had one", "tale 0 9 1 1", "order 1 0 0 = 0", "order 0 0 0 = -1");
    edge("20 a set that does not go on", "tale 9 9 1 1", "tale 9 9 1 1", "order 1 0 0 = 0", "order 3 0 0 = -1", "order 3 1 1 = -1");
    edge("20 some are not there, or told", "tale 0 9 1 1", "order 2 0 0 = -1", "order -1 0 0 = -1", "order 1024 0 0 = -1",
        "tell 0 0", "order 1 0 0 = -1");
    edge("20 none is not refused", "order 1 0 0 = -1", "status = 0", "count 6 = 0", "count 7 = 0");
    edge("20 the row of tales is ahead of the row of tellers", "tale 0 9 1 2", "tale 0 9 1 3", "terms 1 0", "order 3 0 0 = 0",
        "order 3 0 2 = 1", "order 3 1 0 = 1", "order 3 1 2 = 0", "order 3 1 1 = 8");
    edge("20 the first tellers that lead on", "tale 9 9 1 3", "tale 8 8 1 1", "terms 1 0", "order 3 0 2 = 1", "order 3 1 2 = 0",
        "terms 1 1", "order 3 0 2 = 0", "order 3 1 2 = 0");
    edge("20 tellers by turns", "4 times tale 0 9 1 15", "terms 0 4", "terms 1 0", "order 15 0 2 = 0", "order 15 1 2 = 1",
        "order 15 2 2 = 0", "order 15 3 2 = 1");
    edge("20 behind who told", "tale 0 9 1 1", "2 times tale 0 9 1 3", "terms 1 0", "tell 0 0", "order 6 0 0 = 1", "order 6 0 1 = 8",
        "order 6 0 2 = 1", "order 6 1 2 = 0", "terms 1 1", "order 6 0 2 = 0");
    edge("20 who told can't tell the lower tale", "tale 0 9 1 2", "tale 0 9 1 1", "tale 0 9 1 2", "terms 1 0", "tell 2 1",
        "order 3 0 0 = 1", "order 3 0 2 = 0", "order 3 1 0 = 0", "order 3 1 2 = 1");
    edge("20 who would tell can't tell the lower tale next", "tale 0 9 1 1", "tale 0 9 1 1", "tale 0 9 1 2", "terms 1 0",
        "order 7 0 0 = 0", "order 7 1 0 = 2", "order 7 2 0 = 1", "order 7 2 1 = 7", "order 7 1 2 = 1");
    edge("20 not by who told", "2 times tale 0 9 1 6", "terms 0 3", "terms 1 0", "tell 0 1", "order 2 0 2 = 2", "hush", "tell 0 2",
        "order 2 0 2 = 1");
    edge("20 the last teller", "tale 0 9 1 8", "terms 0 4", "order 1 0 2 = 3");
    edge("20 a lower tale that would not lead on", "tale 0 9 1 1", "tale 9 9 1 1", "order 3 0 0 = 1", "order 3 0 1 = 9",
        "order 3 1 0 = 0", "order 3 1 1 = 8");
    edge("20 a lower tale that just leads on", "tale 0 9 1 1", "tale 8 9 1 1", "order 3 0 0 = 0", "order 3 0 1 = 9",
        "order 3 1 0 = 1", "order 3 1 1 = 8");
  }

  private static void orders() {
    edge("21 none", "orders 0 = 1", "tale 0 0 1 1", "tell 0 0", "orders 0 = 1");
    edge("21 seven", "10 times tale 0 9 1 1", "orders 127 = 5040", "orders 1016 = 5040", "orders 63 = 720");
    edge("21 more than seven", "10 times tale 0 9 1 1", "orders 255 = -1", "orders 1023 = -1", "orders 1020 = -1");
    edge("21 more than seven that do not go on", "10 times tale 0 9 1 0", "orders 255 = -1", "orders 127 = 0");
    edge("21 some are not there, or told", "tale 0 9 1 1", "orders 1 = 1", "orders 2 = -1", "orders -1 = -1", "orders 1024 = -1",
        "orders -2147483648 = -1", "tell 0 0", "orders 1 = -1");
    edge("21 none is not refused", "orders 1 = -1", "status = 0", "count 6 = 0", "count 7 = 0");
    edge("21 a set that does not go on", "tale 9 9 1 1", "tale 9 9 1 1", "orders 3 = 0");
    edge("21 whoever tells", "tale 0 9 1 15", "tale 0 9 1 15", "terms 0 4", "orders 3 = 2", "terms 1 0", "orders 3 = 2");
    edge("21 twice is 0", "tale 0 9 1 1", "tale 0 9 1 2", "tale 0 9 1 1", "orders 7 = 6", "terms 1 0", "orders 7 = 2", "orders 5 = 0");
    edge("21 twice is 0 behind who told", "tale 0 9 1 2", "tale 0 9 1 1", "tale 0 9 1 2", "terms 1 0", "orders 6 = 2", "tell 0 1",
        "orders 4 = 0", "orders 2 = 1", "orders 6 = 1");
    edge("21 behind what was told", "tale 9 9 1 1", "tale 8 8 1 1", "tale 7 9 1 1", "orders 6 = 2", "tell 0 0", "orders 6 = 1");
    edge("21 seven of ten behind three", "10 times tale 0 9 1 1", "tell 0 0", "tell 1 0", "tell 2 0", "orders 1016 = 5040");
  }

  private static void duel() {
    edge("22 no such what", "duel -1 = -1", "duel 2 = -1", "duel 2147483647 = -1", "duel -2147483648 = -1", "duel 0 = 1");
    edge("22 seven", "7 times tale 0 9 1 3", "duel 0 = 0", "duel 1 = 0", "tale 0 9 1 3", "duel 0 = -1", "duel 1 = -1");
    edge("22 seven that are not told", "10 times tale 0 9 1 3", "tell 0 0", "tell 1 0", "duel 0 = -1", "tell 2 0", "duel 0 = 1",
        "duel 1 = 3");
    edge("22 none is not refused", "8 times tale 0 9 1 3", "duel 0 = -1", "duel 5 = -1", "status = 0", "count 6 = 0", "count 8 = 0");
    edge("22 who can't loses", "tale 0 9 1 2", "duel 0 = 1", "duel 1 = -1");
    edge("22 who can wins, if the other can't", "tale 0 9 1 1", "duel 0 = 0", "duel 1 = 0");
    edge("22 who did not tell last is next", "tale 0 9 1 15", "tale 0 9 1 1", "terms 0 3", "tell 0 1", "duel 0 = 0", "duel 1 = 1",
        "hush", "tell 0 0", "duel 0 = 0", "duel 1 = -1", "hush", "tell 0 2", "duel 0 = 0", "duel 1 = 1");
    edge("22 the lowest tale by which he wins", "tale 0 9 1 3", "tale 0 0 1 3", "tale 0 0 1 3", "duel 0 = 0", "duel 1 = 1");
    edge("22 a tale by which he does not win", "tale 0 9 1 3", "tale 0 8 1 3", "duel 0 = 1", "duel 1 = -1");
    edge("22 twice aside", "tale 0 9 1 3", "tale 0 9 1 1", "terms 1 0", "duel 0 = 0", "duel 1 = 0", "tell 0 1", "duel 0 = 0",
        "duel 1 = 1");
    edge("22 tellers 2 and 3 aside", "tale 0 9 1 12", "terms 0 4", "duel 0 = 1", "duel 1 = -1");
    edge("22 behind what was told", "tale 5 5 1 15", "tale 4 9 1 1", "tale 5 9 1 1", "tell 0 1", "duel 0 = 0", "duel 1 = 1");
    edge("22 all were told", "tale 5 5 1 3", "tell 0 0", "duel 0 = 0", "duel 1 = -1", "hush", "tell 0 1", "duel 0 = 1", "duel 1 = -1");
    edge("22 the gap, barred", "tale 9 9 1 3", "tale 4 9 1 2", "tale 5 9 1 3", "type gap 5;bars if tale=2", "law", "force 0",
        "duel 0 = 1", "duel 1 = -1", "put 1 0 5", "duel 0 = 0", "duel 1 = 0");
  }

  private static void winter() {
    edge("23 one evening, four evenings", "5 times tale 5 5 10 1", "winter 1 -1 = 10", "winter 2 -1 = 20", "winter 3 -1 = 30",
        "winter 4 -1 = 40");
    edge("23 no evening, five evenings", "5 times tale 5 5 10 1", "winter 0 -1 = -1", "winter 5 -1 = -1", "winter -1 -1 = -1",
        "winter 2147483647 -1 = -1", "winter -2147483648 -1 = -1", "winter 5 0 = -1", "winter 0 0 = -1");
    edge("23 the first and the last evening", "5 times tale 5 5 10 1", "winter 1 0 = 1", "winter 4 0 = 1", "winter 4 1 = 2",
        "winter 4 2 = 4", "winter 4 3 = 8", "winter 3 2 = 4", "winter 2 1 = 2");
    edge("23 no such evening", "5 times tale 5 5 10 1", "winter 1 1 = -1", "winter 2 2 = -1", "winter 3 3 = -1", "winter 4 4 = -1",
        "winter 4 -2 = -1", "winter 1 2147483647 = -1", "winter 1 -2147483648 = -1");
    edge("23 none is not refused", "winter 5 0 = -1", "status = 0", "count 6 = 0");
    edge("23 all at the last evening", "3 times tale 0 9 10 1", "winter 4 -1 = 30", "winter 4 0 = 0", "winter 4 1 = 0", "winter 4 2 = 0",
        "winter 4 3 = 7");
    edge("23 worth nothing: no tale at all", "3 times tale 0 9 0 1", "winter 4 -1 = 0", "winter 4 0 = 0", "winter 4 3 = 0",
        "winter 1 0 = 0");
    edge("23 the lowest set, not the most worth first", "tale 5 5 1 1", "tale 5 5 9 1", "winter 2 -1 = 10", "winter 2 0 = 1",
        "winter 2 1 = 2", "winter 1 -1 = 9", "winter 1 0 = 2");
    edge("23 what was told aside", "tale 5 5 1 1", "tale 5 5 9 1", "terms 1 0", "tell 1 0", "winter 1 -1 = 9", "winter 1 0 = 2",
        "winter 2 -1 = 10", "winter 2 1 = 2");
    edge("23 all ten in four evenings", "10 times tale 0 2 99 1", "winter 4 -1 = 990", "winter 3 -1 = 891", "winter 4 0 = 1",
        "winter 4 1 = 14", "winter 4 2 = 112", "winter 4 3 = 896");
    edge("23 the most worth that can be", "10 times tale 0 9 0 1", "type worth 2000", "law", "force 0", "winter 4 -1 = 9990",
        "winter 4 3 = 1023", "winter 1 0 = 1023");
    edge("23 behind a change", "5 times tale 5 5 10 1", "winter 4 -1 = 40", "put 0 2 1", "put 1 2 1", "put 2 2 1", "put 3 2 1",
        "put 4 2 2", "winter 4 -1 = 5", "winter 4 0 = 1", "winter 4 3 = 16", "terms 0 1", "put 4 3 2", "winter 4 -1 = 4");
    edge("23 what nobody can tell", "tale 0 9 50 12", "tale 0 9 7 1", "winter 4 -1 = 7", "winter 4 3 = 2");
    edge("23 twice is 0 within an evening, not from one to another", "tale 0 9 5 1", "tale 0 9 7 1", "terms 1 0", "winter 1 -1 = 7",
        "winter 2 -1 = 12", "winter 2 0 = 1", "winter 2 1 = 2");
    edge("23 longer, shorter, longer again", "5 times tale 5 5 10 1", "winter 4 3 = 8", "winter 1 0 = 1", "put 0 2 0", "winter 4 0 = 2",
        "winter 2 -1 = 20", "put 1 2 0", "winter 4 -1 = 30", "winter 4 0 = 0", "winter 4 1 = 4");
  }

  private static void learn() {
    edge("24 the first and the last teller there is", "tale 0 9 7 0", "learn 0 0 = 0", "learn 1 0 = 0", "learn 1 1 = 7", "terms 0 4",
        "learn 3 0 = 0", "learn 3 1 = 7");
    edge("24 no such teller", "tale 0 9 7 0", "learn 2 0 = -1", "learn -1 0 = -1", "learn 4 1 = -1", "learn 2147483647 0 = -1",
        "learn -2147483648 1 = -1", "terms 0 4", "learn 4 0 = -1");
    edge("24 no such what", "tale 0 9 7 0", "learn 0 2 = -1", "learn 0 -1 = -1", "learn 0 2147483647 = -1");
    edge("24 he knows all", "tale 0 9 7 1", "tale 0 9 7 3", "learn 0 0 = -1", "learn 0 1 = -1", "learn 1 0 = 0", "learn 1 1 = 14");
    edge("24 the second teller knows all", "tale 0 9 7 2", "learn 1 0 = -1", "learn 1 1 = -1", "learn 0 0 = 0");
    edge("24 what BEST is worth, not LONGEST", "tale 10 10 90 0", "tale 10 12 1 1", "tale 10 12 1 1", "type gap 50 if tale=0", "law",
        "force 0", "learn 0 0 = 0", "learn 0 1 = 90");
    edge("24 none is not refused", "learn 0 0 = -1", "learn 9 9 = -1", "status = 0", "count 6 = 0", "count 7 = 0");
    edge("24 the lowest of alike ones", "tale 0 9 5 0", "tale 0 9 7 0", "tale 0 9 7 0", "learn 0 0 = 1", "learn 0 1 = 7");
    edge("24 though it is worth nothing", "tale 5 5 9 2", "tale 5 5 9 0", "learn 0 0 = 0", "learn 0 1 = 9");
    edge("24 all worth nothing", "tale 5 5 0 0", "learn 0 0 = 0", "learn 0 1 = 0");
    edge("24 only the tenth is not known", "9 times tale 0 9 7 1", "tale 0 9 7 0", "learn 0 0 = 9", "learn 0 1 = 70", "learn 1 0 = 9");
    edge("24 he does not know it then", "tale 0 9 7 0", "learn 0 0 = 0", "of 0 3 = 0", "can 0 0 = 0", "open = 0", "best 0 0 = 0");
    edge("24 what is told aside", "tale 5 5 9 1", "tale 5 5 9 0", "tale 4 4 3 0", "tell 0 0", "learn 0 0 = 2", "learn 0 1 = 3");
    edge("24 twice is 0", "tale 0 9 5 1", "tale 0 9 6 1", "tale 0 9 1 0", "put 2 3 1", "learn 1 0 = 0",
        "learn 1 1 = 12", "put 2 3 0", "terms 1 0", "best 0 0 = 6", "learn 1 0 = 2", "learn 1 1 = 12", "learn 0 0 = 2", "learn 0 1 = 6");
    edge("24 barred from all but one", "tale 0 9 9 0", "tale 0 9 3 0", "type bars if tale=0", "law", "force 0", "learn 0 0 = 1",
        "learn 0 1 = 3");
    edge("24 worth by how many know it", "tale 0 9 9 2", "tale 0 9 9 0", "type worth 1;worth 20 if known=2", "law", "force 0",
        "learn 0 0 = 0", "learn 0 1 = 20");
  }

  public static void main(String[] args) {
    tell();
    hushAndHeard();
    open();
    goes();
    best();
    order();
    orders();
    duel();
    winter();
    learn();
    EDGES.finish();
  }
}
