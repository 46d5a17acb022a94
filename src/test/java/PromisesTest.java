/** Every promise of the document by hand: ordinary inputs, the edges that it names, wrong inputs. */
public final class PromisesTest {
  private static int wrong = 0;
  private static int asked = 0;

  private static void due(String what, int got, int want) {
    asked++;
    if (got != want) {
      wrong++;
      System.out.println(what + " answered " + got + ", due is " + want);
    }
  }

  /** The tape holds the text alone then. */
  private static void type(OlderTale x, String text) {
    x.end(0);
    for (int i = 0; i < text.length(); i += 20) {
      int[] five = new int[5];
      for (int k = 0; k < 20; k++) {
        int sign = i + k < text.length() ? text.charAt(i + k) : 0;
        five[k / 4] = five[k / 4] << 8 | sign;
      }
      x.feed(five[0], five[1], five[2], five[3], five[4]);
    }
    due("end of \"" + text + "\"", x.end(text.length()), text.length());
  }

  private static OlderTale under(String law, int... tales) {
    OlderTale x = new OlderTale();
    for (int i = 0; i + 3 < tales.length; i += 4) {
      x.tale(tales[i], tales[i + 1], tales[i + 2], tales[i + 3]);
    }
    if (!law.isEmpty()) {
      type(x, law);
      due("law \"" + law + "\"", x.law(), 0);
      due("force of it", x.force(0), -1);
    }
    return x;
  }

  private static void faultOf(String text, int place) {
    OlderTale x = new OlderTale();
    type(x, text);
    due("law \"" + text + "\"", x.law(), place == -1 ? 0 : -6);
    due("fault of \"" + text + "\"", x.fault(), place);
    due("status behind \"" + text + "\"", x.status(), place == -1 ? 0 : -6);
    due("tape behind \"" + text + "\"", x.count(5), 0);
  }

  /** What a tale 100 .. 160, base 7, known by tellers 0 and 2 of 3, mood 4, is worth by the law. */
  private static void worthBy(String law, int worth) {
    OlderTale x = under(law, 0, 1, 1, 0, 100, 160, 7, 5 + 8);
    x.terms(0, 3);
    x.terms(2, 4);
    due("worth by \"" + law + "\"", x.of(1, 4), worth);
  }

  private static void newObject() {
    OlderTale x = new OlderTale();
    int[] counts = {0, 0, 0, 0, 0, 0, 0, 0, 0, 0, 0, -1, 2, 1, 0};
    for (int i = 0; i < counts.length; i++) due("new count " + i, x.count(i), counts[i]);
    due("new status", x.status(), 0);
    due("new fault", x.fault(), -1);
    due("new mumbled", x.mumbled(), 0);
    due("new open", x.open(), 0);
    due("new goes", x.goes(0), 1);
    due("new orders", x.orders(0), 1);
    due("new hush", x.hush(), 0);
    due("new drawn", x.drawn(0, 0), -1);
    due("new draw", x.draw(5), 0);
    due("new learn", x.learn(0, 0), -1);
    due("NONE", OlderTale.NONE, -1);
  }

  private static void tale() {
    OlderTale x = new OlderTale();
    due("first", x.tale(0, 2000, 99, 15), 0);
    due("second", x.tale(2000, 2000, 0, 0), 1);
    due("from below", x.tale(-1, 5, 0, 0), -1);
    due("to above", x.tale(5, 2001, 0, 0), -1);
    due("from above to", x.tale(6, 5, 0, 0), -1);
    due("base below", x.tale(5, 5, -1, 0), -1);
    due("base above", x.tale(5, 5, 100, 0), -1);
    due("known below", x.tale(5, 5, 0, -1), -1);
    due("known above", x.tale(5, 5, 0, 16), -1);
    due("none came", x.count(0), 2);
    for (int i = 2; i < 10; i++) due("more", x.tale(1, 2, 3, 4), i);
    due("no room", x.tale(1, 2, 3, 4), -5);
    due("-1 ahead of -5", x.tale(1, 2, 3, 44), -1);
    due("tales", x.count(0), 10);
  }

  private static void put() {
    OlderTale x = under("", 10, 20, 30, 3);
    due("put from", x.put(0, 0, 20), 10);
    due("put from back", x.put(0, 0, 11), 20);
    due("put to", x.put(0, 1, 11), 20);
    due("put base", x.put(0, 2, 99), 30);
    due("put known", x.put(0, 3, 15), 3);
    due("from", x.of(0, 0), 11);
    due("to", x.of(0, 1), 11);
    due("base", x.of(0, 2), 99);
    due("known", x.of(0, 3), 15);
    due("from above to", x.put(0, 0, 12), -1);
    due("to below from", x.put(0, 1, 10), -1);
    due("stays", x.of(0, 1), 11);
    due("what below", x.put(0, -1, 0), -1);
    due("what above", x.put(0, 4, 0), -1);
    due("year above", x.put(0, 1, 2001), -1);
    due("base above", x.put(0, 2, 100), -1);
    due("known above", x.put(0, 3, 16), -1);
    due("below", x.put(0, 3, -1), -1);
    due("no tale", x.put(1, 0, 5), -2);
    due("no tale below", x.put(-1, 0, 5), -2);
    due("-1 ahead of -2", x.put(1, 0, 2001), -1);
    due("refused by -1", x.count(6), 9);
    due("refused by -2", x.count(7), 2);
  }

  private static void of() {
    OlderTale x = under("worth span;gap base", 10, 40, 5, 1);
    int[] all = {10, 40, 5, 1, 30, 5};
    for (int i = 0; i < 6; i++) due("of " + i, x.of(0, i), all[i]);
    due("of 6", x.of(0, 6), -1);
    due("of -1", x.of(0, -1), -1);
    due("no tale", x.of(1, 0), -1);
    due("no tale below", x.of(-1, 0), -1);
    x.force(-1);
    due("worth without", x.of(0, 4), 5);
    due("gap without", x.of(0, 5), 1);
    due("not refused", x.count(6), 0);
  }

  private static void can() {
    OlderTale x = under("bars if teller = tale", 0, 9, 1, 5, 0, 9, 1, 7);
    due("barred", x.can(0, 0), 0);
    due("does not know", x.can(0, 1), 0);
    due("barred too", x.can(1, 1), 0);
    due("can", x.can(1, 0), 1);
    due("no such teller", x.can(1, 2), -1);
    due("no such teller below", x.can(1, -1), -1);
    due("no such tale", x.can(2, 0), -1);
    x.terms(0, 3);
    due("now there is", x.can(1, 2), 1);
    x.force(-1);
    due("not barred", x.can(0, 0), 1);
  }

  private static void terms() {
    OlderTale x = new OlderTale();
    due("tellers", x.terms(0, 4), 2);
    due("tellers again", x.terms(0, 1), 4);
    due("no tellers", x.terms(0, 0), -1);
    due("five tellers", x.terms(0, 5), -1);
    due("twice", x.terms(1, 0), 1);
    due("twice back", x.terms(1, 1), 0);
    due("twice 2", x.terms(1, 2), -1);
    due("twice -1", x.terms(1, -1), -1);
    due("mood", x.terms(2, 9), 0);
    due("mood 10", x.terms(2, 10), -1);
    due("mood -1", x.terms(2, -1), -1);
    due("what -1", x.terms(-1, 1), -1);
    due("what 3", x.terms(3, 1), -1);
    due("status", x.status(), -1);
    due("count 12", x.count(12), 1);
    due("count 13", x.count(13), 1);
    due("count 14", x.count(14), 9);
  }

  private static void tape() {
    OlderTale x = new OlderTale();
    for (int i = 1; i <= 20; i++) due("feed " + i, x.feed(0, 0, 0, 0, 0), 20 * i);
    due("too many", x.feed(0, 0, 0, 0, 0), -1);
    due("not refused", x.count(6), 0);
    due("401", x.end(401), -1);
    due("below", x.end(-1), -1);
    due("381", x.end(381), 381);
    due("one too many", x.feed(0, 0, 0, 0, 0), -1);
    due("380", x.end(380), 380);
    due("just so many", x.feed(0, 0, 0, 0, 0), 400);
    due("0", x.end(0), 0);
    due("1", x.end(1), -1);
    due("bytes", x.count(5), 0);
    // 0xFFFF can't be a year: the highest byte comes first, and bytes above 127 are what they are.
    due("bytes of all five", x.feed(0x00010203, 0x0405FFFF, 0xFFFF0101, 0x00800090, 0x630F0000), 20);
    due("18", x.end(18), 18);
    due("row", x.row(), 2);
    due("mumbled", x.mumbled(), 1);
    due("from", x.of(0, 0), 1);
    due("to", x.of(0, 1), 515);
    due("known", x.of(0, 3), 5);
    due("from 128", x.of(1, 0), 128);
    due("to 144", x.of(1, 1), 144);
    due("base 99", x.of(1, 2), 99);
  }

  private static void row() {
    OlderTale x = new OlderTale();
    due("no row", x.row(), -6);
    due("status", x.status(), -6);
    due("mumbled", x.mumbled(), 0);
    // 5 .. 9 base 1 known 1; 9 .. 5; 5 .. 9 base 100; two bytes
    x.feed(0x00050009, 0x01010009, 0x00050101, 0x00050009, 0x64010005);
    due("a row", x.row(), 1);
    due("mumbled then", x.mumbled(), 3);
    due("the tape", x.count(5), 0);
    due("status then", x.status(), 0);
    due("no row again", x.row(), -6);
    due("mumbled as it was", x.mumbled(), 3);
    due("known 16", x.feed(0x00050009, 0x01100009, 0x00090110, 0, 0), 20);
    x.end(12);
    due("none came", x.row(), 0);
    due("two mumbled", x.mumbled(), 2);
    for (int i = 1; i < 9; i++) x.tale(1, 2, 3, 4);
    x.feed(0x00050009, 0x01010009, 0x00090101, 0, 0);
    x.end(12);
    due("room for one", x.row(), 1);
    due("no room for the other", x.mumbled(), 1);
    due("tales", x.count(0), 10);
    due("refused by -5", x.count(9), 0);
    due("refused by -6", x.count(10), 2);
  }

  private static void law() {
    OlderTale x = new OlderTale();
    due("empty", x.law(), -6);
    due("fault at the end", x.fault(), 0);
    for (int i = 0; i < 6; i++) {
      type(x, "bars");
      due("law " + i, x.law(), i);
      due("no fault", x.fault(), -1);
    }
    type(x, "?");
    due("no room", x.law(), -5);
    due("the tape is empty", x.count(5), 0);
    due("nothing was read", x.fault(), -1);
    due("status", x.status(), -5);
    due("laws", x.count(1), 6);
    due("refused by -5", x.count(9), 1);
    due("refused by -6", x.count(10), 1);
  }

  private static void faults() {
    faultOf("   ", 3);
    faultOf("worth", 5);
    faultOf("worth  ", 7);
    faultOf(" bars ", -1);
    faultOf("worth1", -1);
    faultOf("gap1if1<2", -1);
    faultOf("worth 1worth", 7);
    faultOf("worth 2000", -1);
    faultOf("worth 0002000", -1);
    faultOf("worth 2001", 6);
    faultOf("worth 99999999999999999999", 6);
    faultOf("worth -1", 6);
    faultOf("worth 1 2", 8);
    faultOf("worth (1)", 6);
    faultOf("worth [1]", -1);
    faultOf("worth [1", 8);
    faultOf("worth [1)", 8);
    faultOf("worth 1]", 7);
    faultOf("worth 1 +", 9);
    faultOf("worth 1 + * 2", 10);
    faultOf("worth 1 if", 10);
    faultOf("worth 1 if to", 13);
    faultOf("worth 1 if to and", 14);
    faultOf("worth 1 if (to) < 1", 14);
    faultOf("worth 1 if [to] < 1", -1);
    faultOf("worth 1 if (to < 1", 18);
    faultOf("worth 1 if (to < 1]", 18);
    faultOf("worth 1 if to < 1 < 2", 18);
    faultOf("worth 1 if not", 14);
    faultOf("worth 1 if not not not to > 1", -1);
    faultOf("worth 1 if not (not to > 1 or mood=1) and(tale<1)", -1);
    faultOf("bars if 1 = 1 or", 16);
    faultOf("bars if 1 = 1 if 1 = 1", 14);
    faultOf("bars 1", 5);
    faultOf("bars;", 5);
    faultOf("bars; ", 6);
    faultOf(";bars", 0);
    faultOf("bars;;bars", 5);
    faultOf("Bars", 0);
    faultOf("barsif 1=1", 0);
    faultOf("bars\tif 1=1", 4);
    faultOf("barsz", 0);
    faultOf("barsa", 0);
    faultOf("bars`", 4);
    faultOf("bars{", 4);
    faultOf("gap 9:", 5);
    faultOf("gap 0/", 6);
    faultOf("gap tales", 4);
    faultOf("gap tale from", 9);
    faultOf("gap worth", 4);
    faultOf("gap " + (char) 233, 4);
    faultOf("gap tale+from+to+span+base+known+mood+teller", -1);
    limits();
  }

  private static void limits() {
    faultOf("bars;".repeat(11) + "bars", -1);
    faultOf("bars;".repeat(12) + "bars", 60);
    faultOf("bars;".repeat(12) + "  bars", 62);
    faultOf("bars;".repeat(12) + " ", 61);
    faultOf("worth " + "1+".repeat(49) + "1", -1);
    faultOf("worth " + "1+".repeat(50) + "1", 106);
    faultOf("worth " + "1+".repeat(49) + "to;bars if 1=1", 115);
    faultOf("worth " + "1+".repeat(50), 106);
    faultOf("worth " + "[".repeat(8) + "1" + "]".repeat(8), -1);
    faultOf("worth " + "[".repeat(9) + "1" + "]".repeat(9), 14);
    faultOf("bars if " + "(".repeat(8) + "1=1" + ")".repeat(8), -1);
    faultOf("bars if " + "(".repeat(9) + "1=1" + ")".repeat(9), 16);
    faultOf("bars if " + "(".repeat(4) + "[[[[1]]]]=1" + ")".repeat(4), -1);
    faultOf("bars if " + "(".repeat(4) + "[[[[[1]]]]]=1" + ")".repeat(4), 16);
    faultOf("bars if " + "(".repeat(7) + "[1]=[1]+[1]" + ")".repeat(7) + "or([1]=1)", -1);
    faultOf("bars if " + "not ".repeat(97) + "1=1", -1);
    faultOf("bars if " + "not ".repeat(98), 400);
    faultOf(";".repeat(400), 0);
    faultOf("bars" + " ".repeat(395) + ";", 400);
    faultOf("gap " + "0".repeat(396), -1);
    faultOf("worth 1 if " + "not(".repeat(8) + "1=1" + ")".repeat(8), -1);
  }

  private static void worths() {
    worthBy("gap 3", 7);
    worthBy("worth 3", 3);
    worthBy("worth tale", 1);
    worthBy("worth from", 100);
    worthBy("worth to", 160);
    worthBy("worth span", 60);
    worthBy("worth base", 7);
    worthBy("worth known", 2);
    worthBy("worth mood", 4);
    worthBy("worth teller + 10", 9);
    worthBy("worth 2 + 3 * 4 - 5", 9);
    worthBy("worth 20 - 3 - 4", 13);
    worthBy("worth 100 / 7 / 2 * 3", 21);
    worthBy("worth [2 + 3] * 4", 20);
    worthBy("worth 2 * [3 + [4 - 1] * 2] - 1", 17);
    worthBy("worth 10 + [0 - 7] / 2", 7);
    worthBy("worth 999 + 1", 999);
    worthBy("worth 0 - 5", 0);
    worthBy("worth 3; worth 4", 4);
    worthBy("worth 3; worth 4 if 1 = 2", 3);
    worthBy("worth 3; worth 4 / 0", 3);
    worthBy("worth 3; worth 4 / [mood - 4] if 1 = 1", 3);
    worthBy("worth 3; worth 4 if 1 / 0 = 1", 3);
    worthBy("worth 3; worth 4 if not 1 / 0 = 1", 3);
    worthBy("worth 3; worth 4 if 1 / 0 = 1 or 1 = 1", 3);
    worthBy("worth 3; worth 4 if 1 = 1 or 1 / 0 = 1", 4);
    worthBy("worth 3; worth 4 if 1 = 2 or 1 / 0 = 1", 3);
    worthBy("worth 3; worth 4 if not (1 = 2 and 1 / 0 = 1)", 4);
    worthBy("worth 3; worth 4 if 1 = 2 and 1 / 0 = 1 or 2 = 2", 4);
    worthBy("worth 3; worth 4 if 1 = 1 or 1 = 1 and 1 / 0 = 1", 4);
    worthBy("worth 3; worth 4 if (1 = 1 or 1 = 1) and 1 / 0 = 1", 3);
    worthBy("worth 3; worth 4 if 1 = 1 or 1 = 2 and 1 = 2", 4);
    worthBy("worth 3; worth 4 if not 1 = 2 and 1 = 2", 3);
    worthBy("worth 3; worth 4 if not not 1 < 2", 4);
    worthBy("worth 3; worth 4 if 2 < 2", 3);
    worthBy("worth 3; worth 4 if 2 > 2", 3);
    worthBy("worth 3; worth 4 if 3 > 2", 4);
    worthBy("worth 1000 * 1000 * 1000 / 2000 / 2000 + 1", 251);
    worthBy("worth [1000 * 1000 * 1000 + 1] / 2000", 7);
    worthBy("worth [1000 * 1000 * 1000] / 2000 / 2000", 250);
    worthBy("worth 5 + [0 - 1000 * 1000 * 1000] / 1000 / 1000 / 1000", 4);
    worthBy("worth 5 + [0 - 1000 * 1000 * 1000 - 1] / 1000 / 1000 / 1000", 7);
    worthBy("worth 2000 * 2000 * 2000 / 2000 / 2000", 7);
    OlderTale x = under("gap span; gap 5 if span = 2; gap 0 - 9 if span = 3; gap 2 if base / tale = 1", 0, 2, 0, 0, 0, 3, 0, 0, 0, 1000, 0, 0, 0, 7, 3, 0);
    int[] gaps = {5, 1, 999, 2};
    for (int i = 0; i < 4; i++) due("gap of " + i, x.of(i, 5), gaps[i]);
  }

  private static void force() {
    OlderTale x = under("worth 1", 0, 9, 50, 1);
    type(x, "worth 2");
    due("second law", x.law(), 1);
    due("not yet in force", x.of(0, 4), 1);
    due("in force", x.count(11), 0);
    due("force 1", x.force(1), 0);
    due("worth then", x.of(0, 4), 2);
    due("none", x.force(-1), 1);
    due("none again", x.force(-1), -1);
    due("status", x.status(), 0);
    due("base then", x.of(0, 4), 50);
    due("no such law", x.force(2), -2);
    due("no such law below", x.force(-2), -2);
    due("refused by -2", x.count(7), 2);
    due("in force", x.count(11), -1);
  }

  private static void tell() {
    OlderTale x = under("gap 5 if tale = 1", 10, 50, 1, 3, 20, 50, 1, 3, 45, 45, 1, 3, 0, 100, 1, 1);
    due("teller 2", x.tell(0, 2), -1);
    due("teller -1", x.tell(0, -1), -1);
    due("-1 ahead of -2", x.tell(9, 2), -1);
    due("no tale", x.tell(4, 0), -2);
    due("no tale below", x.tell(-1, 0), -2);
    due("does not know", x.tell(3, 1), -3);
    due("first", x.tell(0, 0), 50);
    due("again", x.tell(0, 1), -3);
    due("five years ahead", x.tell(1, 0), 45);
    due("one year ahead is not there", x.tell(2, 1), -3);
    due("one year ahead", x.tell(3, 0), 44);
    due("told", x.count(2), 3);
    due("refused by -3", x.count(8), 3);
    x.hush();
    x.terms(1, 0);
    due("first", x.tell(1, 1), 50);
    due("twice running", x.tell(0, 1), -3);
    due("the other", x.tell(0, 0), 49);
    due("twice running", x.tell(3, 0), -3);
    OlderTale y = under("", 5, 9, 1, 1, 0, 9, 1, 1, 9, 9, 1, 1);
    due("a", y.tell(2, 0), 9);
    due("b", y.tell(0, 0), 8);
    y.put(0, 1, 5);
    due("what was told stays", y.heard(1, 1), 8);
    due("c", y.tell(1, 0), 7);
  }

  private static void heard() {
    OlderTale x = under("", 10, 50, 1, 3, 20, 60, 1, 3);
    x.tell(1, 1);
    x.tell(0, 0);
    int[][] want = {{1, 60, 1}, {0, 50, 0}};
    for (int i = 0; i < 2; i++) {
      for (int what = 0; what < 3; what++) due("heard", x.heard(i, what), want[i][what]);
    }
    due("no third", x.heard(2, 0), -1);
    due("below", x.heard(-1, 0), -1);
    due("what 3", x.heard(0, 3), -1);
    due("what -1", x.heard(0, -1), -1);
    due("hush", x.hush(), 2);
    due("nothing", x.heard(0, 0), -1);
    due("hush again", x.hush(), 0);
  }

  private static void open() {
    OlderTale x = under("bars if tale = 3", 10, 50, 1, 3, 20, 60, 1, 2, 51, 60, 1, 1, 0, 90, 1, 15, 0, 90, 1, 12);
    due("open", x.open(), 7);
    x.terms(0, 3);
    due("open to three", x.open(), 23);
    x.tell(0, 0);
    due("behind the first", x.open(), 18);
    x.terms(1, 0);
    x.terms(0, 2);
    due("not twice", x.open(), 2);
    x.hush();
    x.tell(1, 1);
    due("by the other", x.open(), 5);
  }

  private static void goes() {
    OlderTale x = under("", 10, 10, 5, 1, 9, 10, 5, 2, 9, 9, 5, 1);
    due("two in one year", x.goes(5), 1);
    due("all", x.goes(7), 0);
    due("two", x.goes(3), 1);
    due("two others", x.goes(6), 1);
    due("none", x.goes(0), 1);
    due("not there", x.goes(8), -1);
    due("below", x.goes(-1), -1);
    x.tell(0, 0);
    due("told", x.goes(1), -1);
    due("behind it", x.goes(2), 1);
    due("both behind it", x.goes(6), 0);
    x.terms(1, 0);
    due("not twice", x.goes(4), 0);
  }

  private static void best() {
    // 0 and 2 shut each other out, and so do 1 and 3; 0 and 1 go together with all else.
    OlderTale x = under("", 10, 10, 40, 1, 5, 5, 10, 1, 10, 10, 30, 1, 5, 5, 20, 1, 1, 1, 0, 1);
    int[] most = {60, 2, 9, 2};
    int[] longest = {60, 3, 25, 1};
    for (int what = 0; what < 4; what++) {
      due("best " + what, x.best(0, what), most[what]);
      due("longest " + what, x.best(1, what), longest[what]);
    }
    due("by 2", x.best(2, 0), -1);
    due("by -1", x.best(-1, 0), -1);
    due("what 4", x.best(0, 4), -1);
    due("what -1", x.best(1, -1), -1);
    x.tell(0, 0);
    due("told aside", x.best(0, 0), 20);
    due("told aside", x.best(0, 2), 8);
    x.put(3, 2, 10);
    due("as good", x.best(1, 3), 2);
    due("the lowest", x.best(1, 2), 18);
    OlderTale y = under("worth 0", 10, 10, 40, 1, 5, 5, 10, 1);
    due("all worth nothing", y.best(0, 3), 4);
    due("none is the lowest", y.best(0, 2), 0);
    due("two are the most", y.best(1, 2), 3);
  }

  private static void order() {
    OlderTale x = under("", 0, 30, 5, 3, 0, 40, 5, 3, 29, 30, 5, 2);
    x.terms(1, 0);
    // 0 first: 30, then 2 must come at 29, then 1 at 28; 0 and 1 ahead of 2 would be too far back.
    int[][] want = {{0, 30, 0}, {2, 29, 1}, {1, 28, 0}};
    for (int i = 0; i < 3; i++) {
      for (int what = 0; what < 3; what++) due("order " + i, x.order(7, i, what), want[i][what]);
    }
    due("fourth", x.order(7, 3, 0), -1);
    due("below", x.order(7, -1, 0), -1);
    due("what", x.order(7, 0, 3), -1);
    due("what below", x.order(7, 0, -1), -1);
    due("none", x.order(0, 0, 0), -1);
    due("not there", x.order(8, 0, 0), -1);
    x.put(2, 3, 0);
    due("does not go on", x.order(7, 0, 0), -1);
    x.tell(0, 1);
    due("told", x.order(1, 0, 0), -1);
    due("behind what was told", x.order(2, 0, 1), 29);
    due("not by who told", x.order(2, 0, 2), 0);
    // The tellers' row: only 1 knows the second, so 0 or 2 must tell the first, 0 being the first.
    OlderTale y = under("", 50, 50, 1, 7, 40, 40, 1, 2, 30, 30, 1, 6);
    y.terms(0, 3);
    y.terms(1, 0);
    int[] tellers = {0, 1, 2};
    for (int i = 0; i < 3; i++) due("teller " + i, y.order(7, i, 2), tellers[i]);
    y.terms(1, 1);
    due("twice", y.order(7, 2, 2), 1);
  }

  private static void orders() {
    OlderTale x = under("", 0, 50, 1, 1, 0, 50, 1, 2, 0, 50, 1, 3, 0, 50, 1, 0);
    due("all rows", x.orders(7), 6);
    due("not known", x.orders(15), 0);
    due("none", x.orders(0), 1);
    due("one", x.orders(4), 1);
    due("not there", x.orders(16), -1);
    due("below", x.orders(-8), -1);
    x.terms(1, 0);
    due("by turns", x.orders(7), 4);
    x.tell(0, 0);
    due("behind it", x.orders(6), 1);
    due("told", x.orders(1), -1);
    OlderTale y = new OlderTale();
    for (int i = 0; i < 9; i++) y.tale(0, 100, 1, 1);
    due("seven", y.orders(127), 5040);
    due("eight", y.orders(255), -1);
    OlderTale z = under("gap 10 if tale = 1", 10, 20, 1, 1, 10, 20, 1, 1, 10, 20, 1, 1);
    due("rows by the gap", z.orders(7), 2);
  }

  private static void duel() {
    OlderTale x = under("", 0, 50, 1, 1, 0, 50, 1, 2, 49, 50, 1, 3);
    // 0 tells 0 (50), 1 tells 2 (49): 0 has none left. 0 tells 2 (50), 1 tells 1 (49), 0 tells 0: 1 has none.
    due("who wins", x.duel(0), 0);
    due("by which", x.duel(1), 2);
    due("what 2", x.duel(2), -1);
    due("what -1", x.duel(-1), -1);
    x.tell(2, 0);
    due("1 is next", x.duel(0), 0);
    due("by none", x.duel(1), -1);
    x.hush();
    x.tell(2, 1);
    due("0 is next", x.duel(0), 1);
    due("0 has none", x.duel(1), -1);
    x.hush();
    x.terms(0, 3);
    x.put(2, 3, 7);
    x.tell(2, 2);
    due("0 is next if neither told", x.duel(0), 1);
    x.hush();
    x.terms(0, 1);
    due("1 is not there", x.duel(0), 0);
    due("the lowest", x.duel(1), 0);
    OlderTale y = new OlderTale();
    for (int i = 0; i < 8; i++) y.tale(0, 100, 1, 3);
    due("more than seven", y.duel(0), -1);
    y.tell(0, 0);
    due("seven", y.duel(0), 1);
    due("seven", y.duel(1), 1);
    y.terms(1, 0);
    due("twice aside", y.duel(0), 1);
  }

  private static void winter() {
    OlderTale x = under("", 10, 10, 40, 1, 10, 10, 30, 1, 10, 10, 20, 1, 10, 10, 5, 1, 10, 10, 3, 1);
    int[] most = {40, 70, 90, 95};
    for (int e = 1; e <= 4; e++) due("winter of " + e, x.winter(e, -1), most[e - 1]);
    int[] sets = {1, 2, 4, 8};
    for (int i = 0; i < 4; i++) due("evening " + i, x.winter(4, i), sets[i]);
    due("evening 4", x.winter(4, 4), -1);
    due("evening -2", x.winter(4, -2), -1);
    due("no evenings", x.winter(0, -1), -1);
    due("five evenings", x.winter(5, -1), -1);
    due("evening 1 of 1", x.winter(1, 1), -1);
    x.tell(0, 0);
    due("told aside", x.winter(1, -1), 40);
    due("told aside", x.winter(1, 0), 1);
    x.put(0, 1, 11);
    due("two in an evening", x.winter(2, -1), 90);
    due("first evening", x.winter(2, 0), 2);
    due("second evening", x.winter(2, 1), 5);
    OlderTale y = under("", 10, 10, 0, 1, 9, 9, 7, 1);
    due("nothing is lower than nought", y.winter(3, 0), 0);
    due("nothing is lower than nought", y.winter(3, 1), 0);
    due("all at last", y.winter(3, 2), 2);
    y.terms(1, 0);
    y.put(0, 2, 5);
    due("not twice in an evening", y.winter(1, -1), 7);
    due("twice in a winter", y.winter(2, -1), 12);
    due("the lower first", y.winter(2, 0), 1);
  }

  private static void learn() {
    OlderTale x = under("", 10, 10, 40, 0, 5, 5, 50, 2, 7, 7, 60, 0, 8, 8, 60, 0);
    due("the lowest of the best", x.learn(0, 0), 2);
    due("worth then", x.learn(0, 1), 110);
    due("no such teller", x.learn(2, 0), -1);
    due("no such teller below", x.learn(-1, 0), -1);
    due("what 2", x.learn(0, 2), -1);
    due("what -1", x.learn(0, -1), -1);
    due("he knows nothing more", x.of(2, 3), 0);
    for (int i = 0; i < 4; i++) x.put(i, 3, 2);
    due("knows all", x.learn(1, 0), -1);
    due("knows all", x.learn(1, 1), -1);
    due("all as it is", x.learn(0, 0), 0);
    due("all as it is", x.learn(0, 1), 210);
    // 0 can only be told alone: it is worth more than 1 and 2, which are more tales.
    OlderTale z = under("gap 50 if tale = 0", 10, 10, 90, 0, 10, 12, 1, 1, 10, 12, 1, 1);
    due("the best, not the longest", z.learn(0, 0), 0);
    due("the best, not the longest", z.learn(0, 1), 90);
    OlderTale y = under("worth base * known; bars if teller = 1 and tale = 1", 10, 10, 40, 1, 5, 5, 50, 1, 5, 5, 20, 3);
    // Known by two, 1 is worth 100, though 1 is barred from it: with 0 that is 140, and by 0 it would be 130.
    due("by how many know it", y.learn(1, 1), 140);
    due("though barred", y.learn(1, 0), 1);
    y.tell(1, 0);
    due("what was told can be learnt, too", y.learn(1, 0), 0);
    due("behind it there is nothing", y.learn(1, 1), 0);
  }

  private static void mention() {
    OlderTale x = under("", 0, 50, 1, 1, 0, 50, 1, 2);
    due("one", x.mention(0, 1, 0), 1);
    due("two", x.mention(0, 1, 500), 2);
    due("501", x.mention(0, 1, 501), -1);
    due("-1", x.mention(0, 1, -1), -1);
    due("no older", x.mention(2, 1, 5), -2);
    due("no younger", x.mention(0, 2, 5), -2);
    due("below", x.mention(-1, 0, 5), -2);
    due("the same", x.mention(1, 1, 5), -3);
    due("-2 ahead of -3", x.mention(2, 2, 5), -2);
    due("-1 ahead of -2", x.mention(2, 2, 501), -1);
    for (int i = 3; i <= 10; i++) due("more", x.mention(1, 0, 1), i);
    due("no room", x.mention(1, 0, 1), -5);
    due("-3 ahead of -5", x.mention(1, 1, 1), -3);
    due("status", x.status(), -3);
    due("count", x.count(3), 10);
    due("forget", x.forget(), 10);
    due("none", x.count(3), 0);
    due("forget again", x.forget(), 0);
    due("one again", x.mention(1, 0, 1), 1);
  }

  private static void dated() {
    OlderTale x = under("", 0, 100, 1, 1, 0, 100, 1, 2, 0, 100, 1, 2, 50, 60, 1, 2);
    x.mention(2, 1, 20);
    x.mention(1, 0, 30);
    x.mention(3, 0, 45);
    int[] early = {95, 20, 0, 50};
    int[] late = {100, 70, 50, 55};
    for (int i = 0; i < 4; i++) {
      due("earliest of " + i, x.dated(i, 0), early[i]);
      due("latest of " + i, x.dated(i, 1), late[i]);
    }
    due("no tale", x.dated(4, 0), -1);
    due("no tale below", x.dated(-1, 0), -1);
    due("what 2", x.dated(0, 2), -1);
    due("what -1", x.dated(0, -1), -1);
    x.mention(0, 2, 0);
    due("a ring", x.dated(3, 0), -1);
    x.forget();
    x.mention(0, 1, 0);
    x.mention(1, 2, 0);
    x.mention(2, 0, 0);
    x.mention(3, 2, 0);
    due("a ring of nothing", x.dated(1, 0), 50);
    due("a ring of nothing", x.dated(1, 1), 100);
    x.put(1, 0, 5);
    x.put(1, 1, 40);
    due("a span that can't be", x.dated(0, 0), -1);
  }

  private static void doubt() {
    OlderTale x = under("", 0, 100, 1, 1, 0, 100, 1, 2, 0, 100, 1, 2);
    x.mention(0, 1, 10);
    due("no doubt", x.doubt(0), 0);
    due("no doubt", x.doubt(1), 0);
    due("no doubt", x.doubt(2), 1);
    x.mention(1, 2, 1);
    x.mention(2, 0, 0);
    due("one of a ring", x.doubt(0), 1);
    due("the lowest", x.doubt(1), 1);
    due("each", x.doubt(2), 3);
    x.mention(1, 0, 200);
    due("two", x.doubt(0), 2);
    due("the lowest two", x.doubt(1), 9);
    due("three ways", x.doubt(2), 3);
    due("what 3", x.doubt(3), -1);
    due("what -1", x.doubt(-1), -1);
    x.forget();
    for (int i = 0; i < 10; i++) x.mention(0, 1, 400);
    due("all", x.doubt(0), 10);
    due("all", x.doubt(1), 1023);
    due("one way", x.doubt(2), 1);
  }

  private static void claim() {
    OlderTale x = under("", 0, 100, 1, 1);
    due("one", x.claim(0, 2000, 3), 1);
    due("two", x.claim(0, 0, 0), 2);
    due("year", x.claim(0, 2001, 0), -1);
    due("year below", x.claim(0, -1, 0), -1);
    due("teller", x.claim(0, 5, 4), -1);
    due("teller below", x.claim(0, 5, -1), -1);
    due("tale", x.claim(1, 5, 0), -2);
    due("tale below", x.claim(-1, 5, 0), -2);
    due("-1 ahead of -2", x.claim(1, 5, 4), -1);
    for (int i = 3; i <= 10; i++) due("more", x.claim(0, 5, 0), i);
    due("no room", x.claim(0, 5, 0), -5);
    due("count", x.count(4), 10);
    due("clear", x.clear(), 10);
    due("none", x.count(4), 0);
    due("clear again", x.clear(), 0);
  }

  private static OlderTale claiming(int twice, int... claims) {
    OlderTale x = under("gap 10 if tale = 1; bars if tale = 2 and teller = 0", 10, 50, 1, 3, 10, 50, 1, 3, 0, 100, 1, 15, 0, 100, 1, 1);
    x.terms(1, twice);
    for (int i = 0; i + 2 < claims.length; i += 3) x.claim(claims[i], claims[i + 1], claims[i + 2]);
    return x;
  }

  private static void wrongAndLiars() {
    due("none", claiming(1).wrong(), -1);
    due("any year", claiming(1, 0, 30, 0).wrong(), -1);
    due("ahead of its span", claiming(1, 0, 9, 0).wrong(), 0);
    due("behind its span", claiming(1, 0, 51, 0).wrong(), 0);
    due("does not know", claiming(1, 3, 50, 1).wrong(), 0);
    due("barred", claiming(1, 2, 50, 0).wrong(), 0);
    due("is not there", claiming(1, 2, 50, 2).wrong(), 0);
    due("gap", claiming(1, 0, 40, 0, 1, 30, 0).wrong(), -1);
    due("gap too small", claiming(1, 0, 40, 0, 1, 31, 0).wrong(), 1);
    due("same year", claiming(1, 1, 40, 0, 0, 40, 0).wrong(), 1);
    due("told already", claiming(1, 1, 40, 0, 0, 30, 0, 1, 15, 1).wrong(), 2);
    due("twice", claiming(0, 1, 40, 0, 0, 30, 0).wrong(), 1);
    due("by turns", claiming(0, 1, 40, 0, 0, 30, 1, 3, 20, 0).wrong(), -1);
    due("no claims", claiming(1).liars(), 0);
    due("the year", claiming(1, 0, 40, 0, 1, 31, 0).liars(), 3);
    due("only the first", claiming(1, 0, 60, 0, 1, 31, 0).liars(), 1);
    due("two of them", claiming(1, 0, 60, 0, 1, 51, 0).liars(), 0);
    due("told twice", claiming(1, 1, 40, 0, 0, 30, 0, 1, 15, 1).liars(), 5);
    due("none wrong", claiming(1, 1, 40, 0, 0, 30, 0).liars(), 3);
    due("none wrong, by turns", claiming(0, 1, 40, 0, 0, 30, 1, 3, 20, 0).liars(), 5);
    OlderTale x = claiming(1, 0, 40, 0);
    x.tell(0, 0);
    due("what was told is another row", x.wrong(), -1);
  }

  private static void draw() {
    OlderTale x = under("", 0, 50, 1, 3, 0, 60, 1, 2, 0, 70, 1, 1);
    due("below", x.draw(-1), -1);
    due("above", x.draw(1000001), -1);
    due("status", x.status(), -1);
    // 1: 13448 of 4 (0 by 0, 0 by 1, 1 by 1, 2 by 0) is 0; 845499 of 2 is 1; 597691 of 1.
    due("drawn", x.draw(1), 3);
    int[][] want = {{0, 50, 0}, {2, 49, 0}, {1, 48, 1}};
    for (int i = 0; i < 3; i++) {
      for (int what = 0; what < 3; what++) due("drawn " + i, x.drawn(i, what), want[i][what]);
    }
    due("on paper", x.count(2), 0);
    due("no fourth", x.drawn(3, 0), -1);
    due("below", x.drawn(-1, 0), -1);
    due("what 3", x.drawn(0, 3), -1);
    due("what -1", x.drawn(0, -1), -1);
    due("refused", x.draw(-5), -1);
    due("stays", x.drawn(2, 0), 1);
    due("largest", x.draw(1000000), 3);
    x.terms(1, 0);
    x.tell(1, 1);
    // 1: 13448 of 2 (0 by 0, 2 by 0) is 0; then nobody may go on.
    due("behind what was told", x.draw(1), 1);
    due("its year", x.drawn(0, 1), 50);
    due("none left", x.drawn(1, 0), -1);
  }

  private static void images() {
    OlderTale x = under("worth 5", 0, 50, 1, 3, 0, 60, 1, 3);
    due("not kept", x.back(0), -2);
    due("no image", x.back(2), -1);
    due("no image below", x.back(-1), -1);
    due("no image to keep", x.image(2), -1);
    due("no image to keep below", x.image(-1), -1);
    x.tell(0, 1);
    x.mention(0, 1, 5);
    x.claim(0, 3, 1);
    x.terms(2, 7);
    due("image", x.image(0), 0);
    x.tale(1, 2, 3, 4);
    x.put(0, 2, 9);
    x.put(0, 3, 1);
    x.tell(1, 0);
    x.mention(1, 0, 5);
    x.claim(0, 3, 1);
    x.terms(0, 4);
    x.terms(1, 0);
    x.terms(2, 1);
    type(x, "worth 6");
    x.law();
    x.force(1);
    x.draw(3);
    type(x, "worth +");
    x.law();
    type(x, "ab");
    x.row();
    type(x, "abc");
    due("another image", x.image(1), 0);
    due("back", x.back(0), 0);
    int[] counts = {2, 1, 1, 1, 1, 3, 4, 1, 0, 0, 1, 0, 2, 1, 7};
    for (int i = 0; i < counts.length; i++) due("count " + i, x.count(i), counts[i]);
    due("base", x.of(0, 2), 1);
    due("known", x.of(0, 3), 3);
    due("worth", x.of(0, 4), 5);
    due("heard", x.heard(0, 2), 1);
    due("fault stays", x.fault(), 6);
    due("mumbled stays", x.mumbled(), 1);
    due("drawn stays", x.drawn(0, 0), 2);
    type(x, "worth 9");
    due("another law 1", x.law(), 1);
    due("to the other image", x.back(1), 0);
    due("tales", x.count(0), 3);
    due("its law 1", x.of(0, 4), 6);
    due("told", x.count(2), 2);
    due("again the first", x.back(0), 0);
    due("tales", x.count(0), 2);
    due("status", x.status(), 0);
  }

  /** Laws of one number in two images. */
  private static void lawsOfImages() {
    OlderTale x = under("", 0, 50, 1, 3);
    x.image(0);
    type(x, "worth 5");
    due("law 0", x.law(), 0);
    x.force(0);
    x.image(1);
    x.back(0);
    due("none", x.count(1), 0);
    due("none in force", x.count(11), -1);
    type(x, "worth 6");
    due("law 0 again", x.law(), 0);
    due("force", x.force(0), -1);
    due("worth by it", x.of(0, 4), 6);
    x.back(1);
    due("worth by the other", x.of(0, 4), 5);
  }

  private static void counts() {
    OlderTale x = new OlderTale();
    for (int i = 0; i < 3; i++) x.tale(-1, 0, 0, 0);
    for (int i = 0; i < 2; i++) x.force(7);
    x.tale(0, 1, 0, 0);
    x.tell(0, 0);
    x.row();
    due("by -1", x.count(6), 3);
    due("by -2", x.count(7), 2);
    due("by -3", x.count(8), 1);
    due("by -5", x.count(9), 0);
    due("by -6", x.count(10), 1);
    due("15", x.count(15), -1);
    due("-1", x.count(-1), -1);
    x.of(9, 9);
    x.end(5);
    x.goes(-1);
    due("NONE is not refused", x.count(6), 3);
    due("nor does it change the status", x.status(), -6);
  }

  private static void statuses() {
    OlderTale x = new OlderTale();
    int[] got = {
      x.tale(5, 4, 0, 0), x.status(), x.tale(4, 5, 0, 1), x.status(), x.put(1, 0, 0), x.status(), x.put(0, 0, 0), x.status(),
      x.terms(5, 0), x.status(), x.terms(2, 1), x.status(), x.row(), x.status(), x.law(), x.status(), x.force(3), x.status(),
      x.force(-1), x.status(), x.tell(0, 1), x.status(), x.tell(0, 0), x.status(), x.mention(0, 0, 0), x.status(),
      x.claim(3, 0, 0), x.status(), x.claim(0, 0, 0), x.status(), x.draw(-1), x.status(), x.draw(0), x.status(),
      x.image(7), x.status(), x.back(1), x.status(), x.image(1), x.status(), x.back(1), x.status()};
    int[] want = {
      -1, -1, 0, 0, -2, -2, 4, 0, -1, -1, 0, 0, -6, -6, -6, -6, -2, -2, -1, 0, -3, -3, 5, 0, -3, -3, -2, -2, 1, 0,
      -1, -1, 0, 0, -1, -1, -2, -2, 0, 0, 0, 0};
    for (int i = 0; i < want.length; i++) due("status at " + i, got[i], want[i]);
    x.force(3);
    x.open();
    x.hush();
    x.feed(0, 0, 0, 0, 0);
    due("others leave it", x.status(), -2);
  }

  public static void main(String[] args) {
    newObject();
    tale();
    put();
    of();
    can();
    terms();
    tape();
    row();
    law();
    faults();
    worths();
    force();
    tell();
    heard();
    open();
    goes();
    best();
    order();
    orders();
    duel();
    winter();
    learn();
    mention();
    dated();
    doubt();
    claim();
    wrongAndLiars();
    draw();
    images();
    lawsOfImages();
    counts();
    statuses();
    System.out.println(asked + " answers by hand, " + wrong + " wrong");
    if (wrong != 0) System.exit(1);
  }
}
