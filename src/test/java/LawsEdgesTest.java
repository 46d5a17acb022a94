/** The boundary cases of promises 7 to 13: feed, end, row, mumbled, law, fault, force, and of the language of laws. */
public final class LawsEdgesTest {
  private static final Edges EDGES = new Edges();

  private static void edge(String title, String... lines) {
    EDGES.edge(title, lines);
  }

  private static void taken(String title, String text) {
    edge("11 " + title + " \"" + text + "\"", "type " + text, "law = 0", "status = 0", "fault = -1", "count 1 = 1", "count 5 = 0");
  }

  private static void faulty(String title, String text, int place) {
    edge("11 " + title + " \"" + text + "\"", "type " + text, "law = -6", "status = -6", "fault = " + place, "count 1 = 0",
        "count 5 = 0", "count 10 = 1");
  }

  /** Of a tale 100 .. 160, base 7, known by 0, 2 and 3, where there are three tellers and the mood is 4. */
  private static void asked(String title, String law, String... lines) {
    Script script = new Script(title + " \"" + law + "\"");
    script.run("tale 0 1 1 0", "tale 100 160 7 13", "terms 0 3", "terms 2 4", "type " + law, "law = 0", "force 0 = -1");
    EDGES.end(script.run(lines));
  }

  private static void worth(String title, String law, int worth) {
    asked("11 " + title, law, "of 1 4 = " + worth);
  }

  private static void feed() {
    edge("7 twenty bytes", "feed 0 0 0 0 0 = 20", "count 5 = 20", "feed 0 0 0 0 0 = 40", "count 5 = 40");
    edge("7 just 400", "19 times feed 0 0 0 0 0", "count 5 = 380", "feed 0 0 0 0 0 = 400", "count 5 = 400");
    edge("7 more than 400", "20 times feed 0 0 0 0 0", "feed 0 0 0 0 0 = -1", "count 5 = 400");
    edge("7 one more than 400", "20 times feed 0 0 0 0 0", "end 381", "feed 0 0 0 0 0 = -1", "count 5 = 381",
        "end 380", "feed 0 0 0 0 0 = 400");
    edge("7 none is not refused", "21 times feed 0 0 0 0 0", "status = 0", "count 6 = 0", "count 9 = 0");
    // b a r s, then blanks: 0x62617273.
    edge("7 the highest byte first", "feed 1650553459 538976288 538976288 538976288 538976288 = 20", "law = 0");
    // 1 .. 2 base 3 known 4; 5 .. 6 base 7 known 8; 9 .. 10 base 11 known 12: across all five numbers.
    edge("7 the five numbers in their row", "feed 65538 50593797 395016 589834 185335808 = 20", "end 18", "row = 3",
        "of 0 0 = 1", "of 0 1 = 2", "of 0 2 = 3", "of 0 3 = 4", "of 1 0 = 5", "of 1 1 = 6", "of 1 2 = 7", "of 1 3 = 8",
        "of 2 0 = 9", "of 2 1 = 10", "of 2 2 = 11", "of 2 3 = 12");
    edge("7 behind what is there", "type ba", "feed 1920147488 538976288 538976288 538976288 538976288 = 22", "law = 0");
    edge("7 behind what end left", "type barsx", "end 4", "feed 996303218 1931485216 538976288 538976288 538976288 = 24", "law = 0");
    edge("7 bytes above 127", "bytes 0 200 0 255 1 1", "row = 1", "of 0 0 = 200", "of 0 1 = 255");
    edge("7 numbers below 0", "feed -1 -1 -1 -1 -1 = 20", "row = 0", "mumbled = 4");
  }

  private static void end() {
    edge("8 all, none", "feed 0 0 0 0 0", "end 20 = 20", "count 5 = 20", "end 0 = 0", "count 5 = 0", "end 0 = 0");
    edge("8 more than it has", "feed 0 0 0 0 0", "end 21 = -1", "count 5 = 20", "end 2147483647 = -1", "end 19 = 19",
        "end 20 = -1", "count 5 = 19");
    edge("8 below 0", "feed 0 0 0 0 0", "end -1 = -1", "end -2147483648 = -1", "count 5 = 20");
    edge("8 just 400", "20 times feed 0 0 0 0 0", "end 401 = -1", "end 400 = 400", "end 399 = 399");
    edge("8 none is not refused", "end 1 = -1", "end -1 = -1", "status = 0", "count 6 = 0");
    edge("8 the first ones stay", "type bars;;;", "end 4 = 4", "law = 0");
  }

  private static void row() {
    edge("9 an empty tape", "row = -6", "status = -6", "count 10 = 1", "mumbled = 0", "count 0 = 0");
    edge("9 the tape is empty then", "bytes 0 5 0 9 1 1", "row = 1", "status = 0", "count 5 = 0", "row = -6");
    edge("9 the tape is empty then, though none came", "bytes 9", "row = 0", "status = 0", "count 5 = 0", "row = -6");
    edge("9 the first and the last numbers", "bytes 0 0 7 208 99 15 7 208 7 208 0 0 0 0 0 0 0 0", "row = 3", "mumbled = 0",
        "of 0 0 = 0", "of 0 1 = 2000", "of 0 2 = 99", "of 0 3 = 15", "of 1 0 = 2000", "of 1 1 = 2000", "of 1 2 = 0",
        "of 1 3 = 0", "of 2 1 = 0");
    edge("9 what came is there at once", "tale 0 9 5 1", "open = 1", "best 0 0 = 5", "bytes 0 5 0 9 3 1", "row = 1", "open = 3",
        "best 0 0 = 8", "of 1 4 = 3");
    edge("10 to above 2000 is mumbled", "bytes 0 0 7 209 9 9", "row = 0", "mumbled = 1");
    edge("10 from and to above 2000 are mumbled", "bytes 7 209 7 209 9 9 255 255 255 255 9 9", "row = 0", "mumbled = 2");
    edge("10 from is to", "bytes 0 5 0 5 9 9", "row = 1", "mumbled = 0");
    edge("10 from above to is mumbled", "bytes 0 6 0 5 9 9 1 0 0 255 9 9", "row = 0", "mumbled = 2");
    edge("10 base above 99 is mumbled", "bytes 0 5 0 5 100 9 0 5 0 5 255 9", "row = 0", "mumbled = 2");
    edge("10 known above 15 is mumbled", "bytes 0 5 0 5 9 16 0 5 0 5 9 255", "row = 0", "mumbled = 2");
    for (int n = 1; n <= 5; n++) {
      edge("10 one within which the tape ends, " + n, "bytes 0 5 0 5 9 9 0 5 0 5 9 9", "end " + (6 + n), "row = 1", "mumbled = 1",
          "count 0 = 1");
    }
    edge("10 what comes behind a mumbled one", "bytes 0 6 0 5 9 9 0 7 0 8 9 9", "row = 1", "mumbled = 1", "of 0 0 = 7");
    edge("10 the ninth and the tenth come", "8 times tale 0 1 2 3", "bytes 0 5 0 5 9 9 0 6 0 6 9 9", "row = 2", "mumbled = 0",
        "of 9 0 = 6", "count 0 = 10");
    edge("10 no room for the eleventh", "9 times tale 0 1 2 3", "bytes 0 5 0 5 9 9 0 6 0 6 9 9", "row = 1", "mumbled = 1",
        "of 9 0 = 5", "count 0 = 10", "status = 0", "count 9 = 0");
    edge("10 room for none", "10 times tale 0 1 2 3", "bytes 0 5 0 5 9 9 0 6", "row = 0", "mumbled = 2", "status = 0");
    edge("10 a mumbled one takes no room", "9 times tale 0 1 2 3", "bytes 0 6 0 5 9 9 0 6 0 6 9 9", "row = 1", "mumbled = 1",
        "of 9 0 = 6");
    edge("9 a full tape", "20 times feed 0 0 0 0 0", "row = 10", "mumbled = 57", "count 0 = 10", "count 5 = 0");
    edge("10 none ahead of any", "mumbled = 0", "row = -6", "mumbled = 0");
    edge("10 stays behind a refused row", "bytes 1", "row = 0", "mumbled = 1", "row = -6", "mumbled = 1");
    edge("10 none again behind a row without", "bytes 1", "row = 0", "mumbled = 1", "bytes 0 5 0 5 9 9", "row = 1", "mumbled = 0");
    edge("10 stays behind tales that are refused", "bytes 1", "row = 0", "tale -1 0 0 0", "mumbled = 1");
  }

  private static void law() {
    edge("11 a law's number is how many there were", "type bars", "law = 0", "type bars", "law = 1", "count 1 = 2");
    edge("11 the sixth is the last", "type bars", "law = 0", "type bars", "law = 1", "type bars", "law = 2", "type bars", "law = 3",
        "type bars", "law = 4", "type bars", "law = 5", "status = 0", "type bars", "law = -5", "status = -5", "count 1 = 6",
        "count 9 = 1", "count 5 = 0");
    edge("11 no room is ahead of reading it", "type bars", "law", "type bars", "law", "type bars", "law", "type bars", "law",
        "type bars", "law", "type bars", "law = 5", "fault = -1", "type worth", "law = -5", "fault = -1", "count 5 = 0",
        "count 10 = 0", "law = -5", "count 9 = 2");
    edge("11 a text that can't be takes no room", "type bars", "law = 0", "type barz", "law = -6", "type bars", "law = 1");
    edge("11 an empty tape: fault at the end", "law = -6", "fault = 0", "count 10 = 1");
    edge("11 one blank alone", "bytes 32", "law = -6", "fault = 1");
    edge("11 blanks alone", "type         ", "law = -6", "fault = 8");
    edge("11 400 blanks", "20 times feed 538976288 538976288 538976288 538976288 538976288", "law = -6", "fault = 400", "count 5 = 0");
    edge("11 400 bytes", "type " + " ".repeat(396) + "bars", "law = 0", "fault = -1");
    edge("11 each law has 50 parts of its own", "type worth " + "1+".repeat(49) + "1", "law = 0", "type worth " + "1+".repeat(49) + "1",
        "law = 1", "fault = -1");
    edge("11 each law has 12 clauses of its own", "type " + "bars;".repeat(11) + "bars", "law = 0", "type " + "bars;".repeat(11) + "bars",
        "law = 1", "type worth 3", "law = 2", "force 2", "tale 0 9 5 1", "of 0 4 = 3", "can 0 0 = 1");
    edge("12 none ahead of any law", "fault = -1", "row = -6", "fault = -1", "force 5 = -2", "fault = -1");
    edge("12 none behind a law that was read", "type ?", "law = -6", "fault = 0", "type bars", "law = 0", "fault = -1");
    edge("12 of the latest law", "type ?", "law = -6", "fault = 0", "type bars ?", "law = -6", "fault = 5");
    edge("12 stays while the tape goes on", "type bars ?", "law = -6", "type bars", "fault = 5", "row = 0", "fault = 5");
    edge("12 behind a law that was not read", "type bars", "law", "type bars", "law", "type bars", "law", "type bars", "law",
        "type bars", "law", "type bars ?", "law = -6", "type bars", "law = 5", "type bars  ?", "law = -5", "fault = -1");
  }

  private static void force() {
    edge("13 the first and the last law", "type bars", "law", "type bars", "law", "force 1 = -1", "count 11 = 1", "force 0 = 1",
        "count 11 = 0");
    edge("13 no such law", "type bars", "law", "force 0", "force 1 = -2", "force -2 = -2", "force 6 = -2", "force 2147483647 = -2",
        "force -2147483648 = -2", "count 7 = 5", "status = -2", "count 11 = 0");
    edge("13 none", "type bars", "law", "force 0", "force -1 = 0", "status = 0", "count 11 = -1", "force -1 = -1", "status = 0");
    edge("13 the sixth law", "type bars", "law", "type bars", "law", "type bars", "law", "type bars", "law", "type bars", "law",
        "type worth 9", "law = 5", "force 5 = -1", "tale 0 1 2 3", "of 0 4 = 9", "force 6 = -2");
    edge("13 a law that is read is not in force", "tale 0 1 2 3", "type worth 9", "law = 0", "count 11 = -1", "of 0 4 = 2");
  }

  private static void tokens() {
    taken("a word is as long as it can be", "bars");
    faulty("a row of letters is one token", "barsif 1=1", 0);
    faulty("a letter more", "gaps 1", 0);
    faulty("a letter less", "wort 1", 0);
    faulty("a blank within a word", "ba rs", 0);
    faulty("a blank within a number", "gap 1 0", 6);
    taken("letters and digits need no blank", "gap1if2=2and3<4");
    faulty("the byte ahead of a", "bars`", 4);
    faulty("the byte behind z", "bars{", 4);
    faulty("a letter a", "barsa", 0);
    faulty("a letter z", "barsz", 0);
    faulty("the byte ahead of 0 is /", "gap 0/", 6);
    faulty("the byte behind 9", "gap 9:", 5);
    taken("the digits 0 and 9", "gap 0+9+10+90+19");
    faulty("great letters", "Bars", 0);
    faulty("great letters within", "bARS", 0);
    faulty("the byte ahead of a blank", "bars" + (char) 31, 4);
    faulty("the byte behind a blank", "bars!", 4);
    faulty("a tab", "bars\t", 4);
    faulty("a new line", "bars\n;bars", 4);
    faulty("a byte 0", "bars" + (char) 0, 4);
    faulty("the byte 160", "bars" + (char) 160, 4);
    faulty("the byte 255", (char) 255 + "bars", 0);
    faulty("a letter with a bit more", "bars" + (char) ('a' + 128), 4);
    faulty("a blank with a bit more", "bars" + (char) (32 + 128), 4);
    taken("blanks ahead, between and behind", "   bars   if   1   =   1   ");
    taken("no blanks", "bars if(1=1)or[2]<3;bars");
    faulty("two signs are two tokens", "bars if 1==1", 10);
    faulty("no sign <=", "bars if 1<=1", 10);
    faulty("no sign <>", "bars if 1<>1", 10);
  }

  private static void clauses() {
    faulty("no clause", ";", 0);
    faulty("no clause behind ;", "bars;", 5);
    faulty("blanks behind ;", "bars;  ", 7);
    faulty("no clause between", "bars;;bars", 5);
    faulty("no ; between", "bars bars", 5);
    faulty("bars has no sum", "bars 1", 5);
    faulty("worth without a sum", "worth", 5);
    faulty("worth without a sum, but if", "worth if 1=1", 6);
    faulty("gap without a sum", "gap;bars", 3);
    faulty("if without a test", "bars if", 7);
    faulty("if without a test, but a clause", "bars if;bars", 7);
    faulty("if twice", "bars if 1=1 if 1=1", 12);
    faulty("a test without if", "bars 1=1", 5);
    faulty("a sum is no test", "bars if 1", 9);
    faulty("a sum is no test, but a clause", "bars if 1;bars", 9);
    faulty("a test is no sum", "worth 1=1", 7);
    faulty("a clause begins with no other word", "if 1=1", 0);
    faulty("nor with a part", "tale", 0);
    faulty("nor with a number", "7", 0);
    faulty("nor with a bracket", "(bars)", 0);
    taken("twelve", "bars;".repeat(11) + "bars");
    faulty("the thirteenth's first token", "bars;".repeat(12) + "bars", 60);
    faulty("the thirteenth's first token behind blanks", "bars;".repeat(12) + "   gap 1", 63);
    faulty("the thirteenth that is none", "bars;".repeat(12) + "?", 60);
    faulty("the thirteenth that is the end", "bars;".repeat(12), 60);
    faulty("the thirteenth that is the end behind blanks", "bars;".repeat(12) + "  ", 62);
    faulty("the twelfth's fault is ahead of it", "bars;".repeat(11) + "bars 1;bars", 60);
    taken("twelve of all kinds", "worth 1;gap 1;bars;".repeat(4).substring(0, 4 * 19 - 1));
  }

  private static void tests() {
    faulty("or without what is behind", "bars if 1=1 or", 14);
    faulty("and without what is behind", "bars if 1=1 and", 15);
    faulty("or ahead", "bars if or 1=1", 8);
    faulty("and ahead", "bars if and 1=1", 8);
    faulty("or and", "bars if 1=1 or and 1=1", 15);
    faulty("not without what is behind", "bars if not", 11);
    faulty("not behind", "bars if 1=1 not", 12);
    faulty("not of a sum", "bars if not 1", 13);
    faulty("not within a sum", "bars if 1 = not 1", 12);
    faulty("two comparisons", "bars if 1<2<3", 11);
    faulty("a comparison without its left", "bars if <2", 8);
    faulty("a comparison without its right", "bars if 2<", 10);
    faulty("a comparison in brackets is no sum", "bars if [1<2]", 10);
    faulty("a sum in round brackets", "bars if (1)<2", 10);
    faulty("round brackets in a sum", "worth (1)", 6);
    faulty("round brackets in a product", "worth 2*(1)", 8);
    faulty("empty round brackets", "bars if ()", 9);
    faulty("empty square brackets", "worth []", 7);
    faulty("no closing round bracket", "bars if (1=1", 12);
    faulty("no closing square bracket", "worth [1", 8);
    faulty("the other closing bracket", "worth [1)", 8);
    faulty("the other closing bracket of a test", "bars if (1=1]", 12);
    faulty("a closing bracket too many", "bars if (1=1))", 13);
    faulty("a square one too many", "worth [1]]", 9);
    taken("brackets around and between", "bars if (1=1 and (2=2 or not (3=3)) or [4]=[[5]])");
    taken("not of a bracket, not of not", "bars if not(1=1)and not not 2=2");
  }

  private static void sums() {
    faulty("no sign ahead", "worth -1", 6);
    faulty("nor +", "worth +1", 6);
    faulty("two signs", "worth 1--1", 8);
    faulty("two parts", "worth 1 2", 8);
    faulty("two words", "worth tale from", 11);
    faulty("a part behind a bracket", "worth [1]2", 9);
    faulty("a sign behind", "worth 1*", 8);
    faulty("a word that is none", "worth year", 6);
    faulty("a word that is no part", "worth gap", 6);
    faulty("bars is no part", "worth 1+bars", 8);
    taken("each word", "worth tale+from+to+span+base+known+mood+teller");
    taken("each sign", "worth 1+2-3*4/5");
    taken("the number 2000", "worth 2000");
    faulty("the number 2001", "worth 2001", 6);
    taken("noughts ahead", "worth 00000000000000000000000000002000");
    faulty("noughts ahead of 2001", "worth 00000000000000000000000000002001", 6);
    faulty("20000", "worth 1+20000", 8);
    faulty("2 to the 32nd", "worth 4294967296", 6);
    faulty("2 to the 32nd and 1", "worth 4294967297", 6);
    faulty("2 to the 64th and 5", "worth 18446744073709551621", 6);
    faulty("a long number", "worth 1" + "0".repeat(393), 6);
    taken("a long nought", "worth " + "0".repeat(394));
    taken("50 numbers", "worth " + "1+".repeat(49) + "1");
    faulty("the 51st number", "worth " + "1+".repeat(50) + "1", 106);
    taken("50 words", "worth " + "to+".repeat(49) + "to");
    faulty("the 51st word", "worth " + "to+".repeat(50) + "to", 156);
    taken("50 in all clauses", "worth " + "1+".repeat(24) + "to;gap " + "1+".repeat(24) + "to");
    faulty("the 51st in all clauses", "worth " + "1+".repeat(24) + "to;gap " + "1+".repeat(24) + "to;gap 1", 116);
    taken("50 with those of a test", "bars if " + "1+".repeat(24) + "1=" + "1+".repeat(24) + "1");
    faulty("the 51st in a test", "bars if " + "1+".repeat(24) + "1=" + "1+".repeat(25) + "1", 108);
    faulty("a 51st that could not be either", "worth " + "1+".repeat(50) + "2001", 106);
    taken("brackets are not counted", "worth " + "[1]+".repeat(49) + "[1]");
    faulty("the 51st within brackets", "worth " + "[1]+".repeat(50) + "[1]", 207);
    faulty("the end ahead of the 51st", "worth " + "1+".repeat(50), 106);
  }

  private static void brackets() {
    taken("8 square ones", "worth " + "[".repeat(8) + "1" + "]".repeat(8));
    faulty("the 9th square one", "worth " + "[".repeat(9) + "1" + "]".repeat(9), 14);
    taken("8 round ones", "bars if " + "(".repeat(8) + "1=1" + ")".repeat(8));
    faulty("the 9th round one", "bars if " + "(".repeat(9) + "1=1" + ")".repeat(9), 16);
    taken("8 of both kinds", "bars if " + "(".repeat(5) + "1=[[[1]]]" + ")".repeat(5));
    faulty("the 9th is a square one", "bars if " + "(".repeat(5) + "1=[[[[1]]]]" + ")".repeat(5), 18);
    taken("7 round and 1 square", "bars if " + "(".repeat(7) + "[1]=1" + ")".repeat(7));
    faulty("8 round and 1 square", "bars if " + "(".repeat(8) + "[1]=1" + ")".repeat(8), 16);
    faulty("8 round and 1 square on the right", "bars if " + "(".repeat(8) + "1=[1]" + ")".repeat(8), 18);
    taken("side by side", "bars if " + "([1]=[1])or".repeat(20) + "(1=1)");
    taken("8 again behind 8", "worth [[[[[[[[1]]]]]]]]+[[[[[[[[1]]]]]]]]*[[[[[[[[1]]]]]]]]");
    taken("8 within one that was opened and shut", "worth [[[[[[[[1]+[1]]+[[1]]]]]]]]");
    faulty("the 9th behind one that was shut", "worth [[[[[[[[1]+[[1]]]]]]]]]", 18);
    taken("not is no bracket", "bars if " + "not ".repeat(97) + "1=1");
    faulty("not till the end", "bars if " + "not ".repeat(98), 400);
    faulty("400 opening brackets", "[".repeat(400), 0);
    faulty("400 tokens, the last one a number", "+".repeat(399) + "1", 0);
    faulty("400 tokens, each second one a number", "1+".repeat(200), 0);
    faulty("as many tokens as can be behind a clause's beginning", "gap 1" + ";".repeat(394) + "1", 6);
    faulty("all brackets that there is room for", "worth " + "[".repeat(394), 14);
    faulty("all round brackets that there is room for", "bars if " + "(".repeat(392), 16);
    taken("8 in each clause", "worth [[[[[[[[1]]]]]]]];bars if ((((((((1=1))))))));gap [[[[[[[[1]]]]]]]]if((((((((1=1))))))))");
  }

  private static void numbersOfSums() {
    worth("just 1,000,000,000", "worth 1000*1000*1000/1000/1000/1000+4", 5);
    worth("one more", "worth 5; worth [1000*1000*1000+1]*0", 5);
    worth("just that below 0", "worth 6+[0-1000*1000*1000]/1000/1000/1000", 5);
    worth("one less", "worth 5; worth [0-1000*1000*1000-1]*0", 5);
    worth("beyond in the midst of a sum", "worth 5; worth 1000*1000*1000+1-1000*1000*1000", 5);
    worth("beyond in the midst of a product", "worth 5; worth 1000*1000*1001/1001/1000", 5);
    worth("far beyond", "worth 5; worth " + "2000*".repeat(30) + "2000*0", 5);
    worth("a product below 0 beyond", "worth 5; worth 0*[[0-1000]*1000*1001]", 5);
    worth("beyond by -", "worth 5; worth 0*[[0-1000]*1000*1000-1]", 5);
    worth("not beyond by -", "worth 5; worth 6+0*[[0-1000]*1000*1000-0]", 6);
    worth("divided by 0", "worth 5; worth 1/0", 5);
    worth("0 divided by 0", "worth 5; worth 0/0", 5);
    worth("divided by what is 0", "worth 5; worth 9/[mood-4]", 5);
    worth("divided by 1", "worth 5; worth 9/[mood-3]", 9);
    worth("divided by -1", "worth 5; worth [0-9]/[mood-5]", 9);
    worth("cut towards 0", "worth 7/2", 3);
    worth("cut towards 0 from below", "worth 10+[0-7]/2", 7);
    worth("cut towards 0 by what is below", "worth 10+7/[0-2]", 7);
    worth("both below", "worth 10+[0-7]/[0-2]", 13);
    worth("cut away all of it", "worth 10+[0-1]/2", 10);
    worth("from left to right", "worth 20-5-3", 12);
    worth("divided from left to right", "worth 100/5*2", 40);
    worth("times ahead of plus", "worth 2+3*4", 14);
    worth("times ahead of minus", "worth 20-3*4-1", 7);
    worth("brackets ahead", "worth [2+3]*4", 20);
  }

  private static void facts() {
    worth("tale", "worth tale", 1);
    worth("from", "worth from", 100);
    worth("to", "worth to", 160);
    worth("span", "worth span", 60);
    worth("base", "worth base", 7);
    worth("known by those that are there", "worth known", 2);
    worth("mood", "worth mood", 4);
    worth("teller where worth is asked", "worth 10+teller", 9);
    worth("teller where the test of worth is asked", "worth 5 if teller=0-1", 5);
    asked("11 teller where gap is asked", "gap 10+teller if teller=0-1", "of 1 5 = 9");
    asked("11 teller where bars is asked", "bars if teller=2", "can 1 0 = 1", "can 1 2 = 0");
    asked("11 the first and the last teller barred", "bars if teller=0 or teller=3", "terms 0 4", "can 1 0 = 0", "can 1 2 = 1",
        "can 1 3 = 0");
    asked("11 known by one, by four", "worth known", "put 1 3 15", "terms 0 1", "of 1 4 = 1", "terms 0 4", "of 1 4 = 4",
        "put 1 3 0", "of 1 4 = 0", "put 1 3 8", "of 1 4 = 1", "terms 0 3", "of 1 4 = 0");
    asked("11 a span of 0", "worth 5;worth 9/span", "put 1 1 100", "of 1 4 = 5");
    asked("11 the longest span", "worth span/2", "put 1 0 0", "put 1 1 1998", "of 1 4 = 999", "put 1 1 1996", "of 1 4 = 998");
  }

  private static void clausesThatHold() {
    worth("none of the kind", "gap 3;bars", 7);
    worth("the last one", "worth 3;worth 4", 4);
    worth("the last that holds", "worth 3;worth 4 if 1=2", 3);
    worth("none that holds", "worth 3 if 1=2", 7);
    worth("none that is not broken", "worth 1/0", 7);
    worth("a broken sum", "worth 3;worth 1/0 if 1=1", 3);
    worth("a broken test", "worth 3;worth 4 if 1/0=1", 3);
    worth("not of a broken test", "worth 3;worth 4 if not 1/0=1", 3);
    worth("a test broken on its right", "worth 3;worth 4 if 1=1/0", 3);
    worth("a test beyond", "worth 3;worth 4 if 1000*1000*1000+1>0", 3);
    worth("a test just not beyond", "worth 3;worth 4 if 1000*1000*1000>0", 4);
    worth("or asks no more", "worth 3;worth 4 if 1=1 or 1/0=1", 4);
    worth("or asks on", "worth 3;worth 4 if 1=2 or 1/0=1", 3);
    worth("and asks no more", "worth 3;worth 4 if not (1=2 and 1/0=1)", 4);
    worth("and asks on", "worth 3;worth 4 if not (1=1 and 1/0=1)", 3);
    worth("broken ahead of or", "worth 3;worth 4 if 1/0=1 or 1=1", 3);
    worth("broken ahead of and", "worth 3;worth 4 if not (1/0=1 and 1=2)", 3);
    worth("or behind an and that is not so", "worth 3;worth 4 if 1=2 and 1/0=1 or 1=1", 4);
    worth("an and behind an or that is so", "worth 3;worth 4 if 1=1 or 1=1 and 1/0=1", 4);
    worth("an or in brackets ahead of and", "worth 3;worth 4 if (1=1 or 1/0=1) and 1=1", 4);
    worth("and ahead of or", "worth 3;worth 4 if 1=1 or 1=2 and 1=2", 4);
    worth("and ahead of or, not from left to right", "worth 3;worth 4 if (1=1 or 1=2) and 1=2", 3);
    worth("three with or", "worth 3;worth 4 if 1=2 or 1=3 or 1=1", 4);
    worth("three with or, the first is so", "worth 3;worth 4 if 1=1 or 1=2 or 1/0=1", 4);
    worth("three with or, the second is so", "worth 3;worth 4 if 1=2 or 1=1 or 1/0=1", 4);
    worth("three with or, none is so", "worth 3;worth 4 if 1=2 or 2=1 or 3=1", 3);
    worth("three with and, the first is not so", "worth 3;worth 4 if not (1=2 and 1/0=1 and 1/0=1)", 4);
    worth("or and or", "worth 3;worth 4 if 1=2 or 1=1 and 1=2 or 1=1", 4);
    worth("three with and", "worth 3;worth 4 if 1=1 and 2=2 and 1=2", 3);
    worth("not is of the next alone", "worth 3;worth 4 if not 1=2 or 1=1/0", 4);
    worth("not twice", "worth 3;worth 4 if not not 1=2", 3);
    worth("not of what is not so", "worth 3;worth 4 if not 1=2", 4);
    worth("not of less", "worth 3;worth 4 if not 1<2", 3);
    worth("not of more", "worth 3;worth 4 if not 2>1", 3);
    worth("not of alike", "worth 3;worth 4 if not 2=2", 3);
    worth("not of not in brackets", "worth 3;worth 4 if not (not 2=2)", 4);
    worth("not of not in brackets that is not so", "worth 3;worth 4 if not (not 2=3)", 3);
    worth("not of and", "worth 3;worth 4 if not (1=1 and 1=2)", 4);
    worth("not of or", "worth 3;worth 4 if not (1=2 or 1=1)", 3);
    worth("alike is not less", "worth 3;worth 4 if 2<2", 3);
    worth("one less is less", "worth 3;worth 4 if 1<2", 4);
    worth("alike is not more", "worth 3;worth 4 if 2>2", 3);
    worth("one more is more", "worth 3;worth 4 if 3>2", 4);
    worth("alike", "worth 3;worth 4 if 2=2", 4);
    worth("not alike", "worth 3;worth 4 if 2=3", 3);
    worth("the twelfth clause", "bars if 1=2;".repeat(11) + "worth 4", 4);
    asked("11 gap: the last that holds", "gap 3;gap 4 if 1=2;gap 1/0", "of 1 5 = 3");
    asked("11 gap: none that holds", "gap 3 if 1=2", "of 1 5 = 1");
    asked("11 bars that holds", "bars", "can 1 0 = 0", "can 1 2 = 0", "open = 0");
    asked("11 bars that does not hold", "bars if 1=2", "can 1 0 = 1", "can 1 2 = 1");
    asked("11 bars that is broken", "bars if 1/0=1", "can 1 0 = 1");
    asked("11 bars: any that holds, not the last", "bars if teller=0;bars if teller=1", "can 1 0 = 0", "can 1 2 = 1");
    asked("11 worth and gap do not bar", "worth 1;gap 1", "can 1 0 = 1");
    asked("11 bars broken for one teller alone", "bars if 1/teller>0-1", "can 1 0 = 1", "can 1 2 = 0");
  }

  public static void main(String[] args) {
    feed();
    end();
    row();
    law();
    force();
    tokens();
    clauses();
    tests();
    sums();
    brackets();
    numbersOfSums();
    facts();
    clausesThatHold();
    EDGES.finish();
  }
}
