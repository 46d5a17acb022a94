/** The boundary cases of promises 1 to 6: a new object, tale, put, of, can, terms. */
public final class TalesEdgesTest {
  private static final Edges EDGES = new Edges();

  private static void edge(String title, String... lines) {
    EDGES.edge(title, lines);
  }

  private static void newObject() {
    edge("1 no tales", "count 0 = 0", "of 0 0 = -1", "put 0 2 5 = -2", "can 0 0 = -1", "open = 0");
    edge("1 no laws, none in force", "count 1 = 0", "count 11 = -1", "force 0 = -2", "force -1 = -1");
    edge("1 nothing is told", "count 2 = 0", "heard 0 0 = -1", "hush = 0", "tell 0 0 = -2");
    edge("1 no mentions", "count 3 = 0", "forget = 0", "dated 0 0 = -1", "doubt 0 = 0", "doubt 1 = 0", "doubt 2 = 1");
    edge("1 no claims", "count 4 = 0", "clear = 0", "wrong = -1", "liars = 0");
    edge("1 the tape is empty", "count 5 = 0", "end 0 = 0", "end 1 = -1");
    edge("1 nothing was refused", "status = 0", "count 6 = 0", "count 7 = 0", "count 8 = 0", "count 9 = 0", "count 10 = 0");
    edge("1 terms at first", "count 12 = 2", "count 13 = 1", "count 14 = 0");
    edge("1 no images", "back 0 = -2", "back 1 = -2");
    edge("1 no evening was drawn", "drawn 0 0 = -1", "drawn 0 1 = -1", "drawn 0 2 = -1");
    edge("1 no row, no law was read", "mumbled = 0", "fault = -1");
    edge("1 evenings without tales", "goes 0 = 1", "goes 1 = -1", "orders 0 = 1", "orders 1 = -1", "order 0 0 0 = -1",
        "best 0 0 = 0", "best 0 1 = 0", "best 0 2 = 0", "best 0 3 = 1", "best 1 0 = 0", "best 1 1 = 0", "best 1 2 = 0",
        "best 1 3 = 1", "draw 0 = 0", "drawn 0 0 = -1");
    edge("1 a duel without tales", "duel 0 = 1", "duel 1 = -1");
    edge("1 a winter without tales", "winter 1 -1 = 0", "winter 4 -1 = 0", "winter 4 0 = 0", "winter 4 3 = 0");
    edge("1 nothing to learn", "learn 0 0 = -1", "learn 0 1 = -1", "learn 1 0 = -1");
    edge("1 one object", "tale 0 1 2 3 = 0", "terms 0 4 = 2", "image 0 = 0", "feed 1 2 3 4 5 = 20");
    edge("1 another object has nothing of it", "count 0 = 0", "count 12 = 2", "back 0 = -2", "count 5 = 0");
  }

  private static void tale() {
    edge("2 a tale's number is how many there were", "tale 1 2 3 4 = 0", "tale 1 2 3 4 = 1", "tale 1 2 3 4 = 2");
    edge("2 all the lowest numbers", "tale 0 0 0 0 = 0", "of 0 0 = 0", "of 0 1 = 0", "of 0 2 = 0", "of 0 3 = 0");
    edge("2 all the highest numbers", "tale 2000 2000 99 15 = 0", "of 0 0 = 2000", "of 0 1 = 2000", "of 0 2 = 99", "of 0 3 = 15");
    edge("2 from 0 to 2000", "tale 0 2000 5 5 = 0", "of 0 0 = 0", "of 0 1 = 2000");
    edge("2 from below 0", "tale -1 5 5 5 = -1", "tale -2147483648 5 5 5 = -1", "count 0 = 0", "count 6 = 2");
    edge("2 from above 2000", "tale 2001 2001 5 5 = -1", "tale 2147483647 2147483647 5 5 = -1", "count 0 = 0");
    edge("2 to above 2000", "tale 5 2001 5 5 = -1", "tale 5 2147483647 5 5 = -1", "count 0 = 0");
    edge("2 to below 0", "tale 0 -1 5 5 = -1", "tale -2 -1 5 5 = -1", "tale 0 -2147483648 5 5 = -1", "count 0 = 0");
    edge("2 from is to", "tale 7 7 5 5 = 0");
    edge("2 from above to", "tale 8 7 5 5 = -1", "tale 2000 0 5 5 = -1", "status = -1", "count 0 = 0");
    edge("2 base below 0", "tale 5 6 -1 5 = -1", "tale 5 6 -2147483648 5 = -1", "count 0 = 0");
    edge("2 base above 99", "tale 5 6 99 5 = 0", "tale 5 6 100 5 = -1", "tale 5 6 2147483647 5 = -1", "count 0 = 1");
    edge("2 known below 0", "tale 5 6 5 -1 = -1", "tale 5 6 5 -2147483648 = -1", "count 0 = 0");
    edge("2 known above all four", "tale 5 6 5 15 = 0", "tale 5 6 5 16 = -1", "tale 5 6 5 2147483647 = -1", "count 0 = 1");
    edge("2 known by tellers that are not there", "tale 5 6 5 12 = 0", "of 0 3 = 12", "can 0 0 = 0", "open = 0");
    edge("2 the tenth is the last", "9 times tale 5 6 5 5", "tale 5 6 5 5 = 9", "status = 0", "tale 5 6 5 5 = -5",
        "status = -5", "count 9 = 1", "count 0 = 10", "of 9 0 = 5", "of 10 0 = -1");
    edge("2 a number that can't be ahead of no room", "10 times tale 5 6 5 5", "tale 5 6 100 5 = -1", "tale 7 6 9 5 = -1",
        "count 6 = 2", "count 9 = 0");
  }

  private static void put() {
    edge("3 from, the first and the last", "tale 5 2000 5 5", "put 0 0 0 = 5", "of 0 0 = 0", "put 0 0 2000 = 0", "of 0 0 = 2000");
    edge("3 from below 0, above 2000", "tale 5 2000 5 5", "put 0 0 -1 = -1", "put 0 0 2001 = -1",
        "put 0 0 -2147483648 = -1", "put 0 0 2147483647 = -1", "of 0 0 = 5", "count 6 = 4");
    edge("3 to, the first and the last", "tale 0 9 5 5", "put 0 1 0 = 9", "of 0 1 = 0", "put 0 1 2000 = 0", "of 0 1 = 2000");
    edge("3 to below 0, above 2000", "tale 0 9 5 5", "put 0 1 -1 = -1", "put 0 1 2001 = -1", "put 0 1 2147483647 = -1", "of 0 1 = 9");
    edge("3 base, the first and the last", "tale 0 9 5 5", "put 0 2 0 = 5", "put 0 2 99 = 0", "of 0 2 = 99");
    edge("3 base below 0, above 99", "tale 0 9 5 5", "put 0 2 -1 = -1", "put 0 2 100 = -1", "of 0 2 = 5");
    edge("3 known, the first and the last", "tale 0 9 5 5", "put 0 3 0 = 5", "put 0 3 15 = 0", "of 0 3 = 15");
    edge("3 known below 0, above 15", "tale 0 9 5 5", "put 0 3 -1 = -1", "put 0 3 16 = -1", "of 0 3 = 5");
    edge("3 no such what", "tale 0 9 5 5", "put 0 -1 5 = -1", "put 0 4 5 = -1", "put 0 2147483647 5 = -1",
        "put 0 -2147483648 5 = -1", "count 6 = 4", "of 0 0 = 0", "of 0 1 = 9", "of 0 2 = 5", "of 0 3 = 5");
    edge("3 from up to to", "tale 3 9 5 5", "put 0 0 9 = 3", "status = 0", "of 0 0 = 9");
    edge("3 from above to", "tale 3 9 5 5", "put 0 0 10 = -1", "status = -1", "of 0 0 = 3", "count 6 = 1");
    edge("3 to down to from", "tale 3 9 5 5", "put 0 1 3 = 9", "status = 0", "of 0 1 = 3");
    edge("3 to below from", "tale 3 9 5 5", "put 0 1 2 = -1", "status = -1", "of 0 1 = 9", "count 6 = 1");
    edge("3 base, known may be above to", "tale 3 3 5 5", "put 0 2 9 = 5", "put 0 3 9 = 5");
    edge("3 base, known may be below from", "tale 30 30 5 5", "put 0 2 1 = 5", "put 0 3 1 = 5");
    edge("3 no such tale", "tale 0 9 5 5", "put 1 0 5 = -2", "put -1 0 5 = -2", "put 2147483647 0 5 = -2",
        "put -2147483648 0 5 = -2", "count 7 = 4");
    edge("3 the last tale", "10 times tale 0 9 5 5", "put 9 2 6 = 5", "put 10 2 6 = -2", "of 9 2 = 6");
    edge("3 -1 is ahead of -2", "put 0 0 2001 = -1", "put 0 4 0 = -1", "put 0 2 100 = -1", "put 0 3 16 = -1", "count 7 = 0");
    edge("3 from above to is behind -2", "tale 3 9 5 5", "put 1 0 10 = -2", "put 1 1 2 = -2", "count 6 = 0");
    edge("3 what it is already", "tale 3 9 5 6", "put 0 0 3 = 3", "put 0 1 9 = 9", "put 0 2 5 = 5", "put 0 3 6 = 6", "status = 0");
    edge("3 of one tale alone", "tale 3 9 5 6", "tale 3 9 5 6", "put 1 2 7 = 5", "of 0 2 = 5", "of 1 2 = 7");
  }

  private static void of() {
    edge("4 the first and the last what", "tale 3 9 5 6", "of 0 0 = 3", "of 0 5 = 1");
    edge("4 no such what", "tale 3 9 5 6", "of 0 -1 = -1", "of 0 6 = -1", "of 0 2147483647 = -1", "of 0 -2147483648 = -1");
    edge("4 the first and the last tale", "tale 3 9 5 6", "9 times tale 4 9 5 6", "of 0 0 = 3", "of 9 0 = 4");
    edge("4 no such tale", "tale 3 9 5 6", "of 1 0 = -1", "of -1 0 = -1", "of 10 4 = -1", "of 2147483647 0 = -1",
        "of -2147483648 5 = -1");
    edge("4 none is not refused", "of 0 0 = -1", "of 0 9 = -1", "status = 0", "count 6 = 0", "count 7 = 0");
    edge("4 worth is base and gap is 1 without a law", "tale 0 2000 99 6", "of 0 4 = 99", "of 0 5 = 1");
    edge("4 worth is not above 999", "tale 0 9 5 6", "type worth 998; gap 998", "law", "force 0", "of 0 4 = 998", "of 0 5 = 998",
        "type worth 999; gap 999", "law", "force 1", "of 0 4 = 999", "of 0 5 = 999",
        "type worth 1000; gap 1000", "law", "force 2", "of 0 4 = 999", "of 0 5 = 999");
    edge("4 worth is not below 0, gap not below 1", "tale 0 9 5 6", "type worth 1; gap 2", "law", "force 0", "of 0 4 = 1",
        "of 0 5 = 2", "type worth 0; gap 1", "law", "force 1", "of 0 4 = 0", "of 0 5 = 1",
        "type worth 0 - 1; gap 0", "law", "force 2", "of 0 4 = 0", "of 0 5 = 1",
        "type worth 0 - 2000; gap 0 - 2000", "law", "force 3", "of 0 4 = 0", "of 0 5 = 1");
  }

  private static void can() {
    edge("5 the first and the last teller there is", "tale 0 9 5 15", "can 0 0 = 1", "can 0 1 = 1", "can 0 2 = -1", "can 0 -1 = -1");
    edge("5 four tellers", "tale 0 9 5 15", "terms 0 4", "can 0 3 = 1", "can 0 4 = -1");
    edge("5 one teller", "tale 0 9 5 15", "terms 0 1", "can 0 0 = 1", "can 0 1 = -1");
    edge("5 no number of a teller", "tale 0 9 5 15", "can 0 32 = -1", "can 0 2147483647 = -1", "can 0 -2147483648 = -1");
    edge("5 each bit of known", "tale 0 9 5 8", "terms 0 4", "can 0 0 = 0", "can 0 1 = 0", "can 0 2 = 0", "can 0 3 = 1",
        "put 0 3 7", "can 0 0 = 1", "can 0 1 = 1", "can 0 2 = 1", "can 0 3 = 0");
    edge("5 no such tale", "tale 0 9 5 15", "can 1 0 = -1", "can -1 0 = -1", "can 10 0 = -1", "can 2147483647 0 = -1");
    edge("5 known by nobody", "tale 0 9 5 0", "can 0 0 = 0", "can 0 1 = 0");
    edge("5 barred", "tale 0 9 5 3", "type bars if teller = 1", "law", "force 0", "can 0 0 = 1", "can 0 1 = 0");
    edge("5 what was told can be told as before", "tale 0 9 5 3", "terms 1 0", "tell 0 0", "can 0 0 = 1");
    edge("5 none is not refused", "can 0 9 = -1", "status = 0", "count 6 = 0", "count 7 = 0");
  }

  private static void terms() {
    edge("6 tellers, the first and the last", "terms 0 1 = 2", "terms 0 4 = 1", "count 12 = 4");
    edge("6 tellers below 1, above 4", "terms 0 0 = -1", "terms 0 5 = -1", "terms 0 -1 = -1", "terms 0 2147483647 = -1",
        "terms 0 -2147483648 = -1", "count 12 = 2", "count 6 = 5");
    edge("6 twice, the first and the last", "terms 1 0 = 1", "terms 1 1 = 0", "count 13 = 1");
    edge("6 twice below 0, above 1", "terms 1 -1 = -1", "terms 1 2 = -1", "count 13 = 1", "count 6 = 2");
    edge("6 mood, the first and the last", "terms 2 9 = 0", "count 14 = 9", "terms 2 0 = 9", "count 14 = 0");
    edge("6 mood below 0, above 9", "terms 2 5", "terms 2 -1 = -1", "terms 2 10 = -1", "count 14 = 5", "count 6 = 2");
    edge("6 no such term", "terms -1 1 = -1", "terms 3 1 = -1", "terms 2147483647 1 = -1", "terms -2147483648 1 = -1",
        "count 6 = 4", "status = -1", "count 12 = 2", "count 13 = 1", "count 14 = 0");
    edge("6 what it is already", "terms 0 2 = 2", "terms 1 1 = 1", "terms 2 0 = 0", "status = 0");
    edge("6 fewer tellers do not forget what they know", "tale 0 9 5 15", "terms 0 1", "of 0 3 = 15", "terms 0 4", "can 0 3 = 1");
  }

  public static void main(String[] args) {
    newObject();
    tale();
    put();
    of();
    can();
    terms();
    EDGES.finish();
  }
}
