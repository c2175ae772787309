/** Promises 36 to 38, and what the Terms say of texts: each sentence that names a boundary case, by itself. */
final class TapeBoundaryTest {
  public static void main(String[] args) {
    feed();
    wipe();
    text();
    tokens();
    parts();
    heirs();
    knows();
    faults();
    Due.end("TapeBoundaryTest");
  }

  private static HeirHalves none() {
    return new HeirHalves();
  }

  /** THE TAPE has so many blanks. */
  private static HeirHalves blanks(int n) {
    HeirHalves x = new HeirHalves();
    for (int i = 0; i < n; i++) {
      x.feed(' ', 1);
    }
    return x;
  }

  /** PARTS, as many as are told. */
  private static HeirHalves having(int parts) {
    HeirHalves x = new HeirHalves();
    for (int p = 0; p < parts; p++) {
      x.part(0, 0);
    }
    return x;
  }

  private static HeirHalves wiped() {
    HeirHalves x = Twin.some();
    x.wipe();
    return x;
  }

  private static void fault(int place, String text) {
    faultIn(place, text, TapeBoundaryTest::wiped);
  }

  /** A FAULT at a place, THE TAPE being empty before: it is so again, and nothing is changed. */
  private static void faultIn(int place, String text, Twin.Made made) {
    Due.due("\"" + text + "\"", Due.tell(made.make(), text), -1 - place);
    Twin.unchanged("\"" + text + "\"", made, x -> Due.tell(x, text));
  }

  private static HeirHalves told(int items, String text) {
    HeirHalves x = new HeirHalves();
    Due.due("\"" + text + "\"", Due.tell(x, text), items);
    return x;
  }

  private static void feed() {
    Due.sentence("36: the n lowest bytes of a number .., the highest of these first");
    HeirHalves x = none();
    Due.due("4 bytes", x.feed(0x6b6e6f77, 4), 4);
    Due.due("3 bytes of 4", x.feed(0xff732033, 3), 7);
    Due.due("text", x.text(), 1);
    Due.due("who KNOW", x.count(4), 8);
    x.feed(0x6b6e6f77, 4);
    x.feed(0x41417320, 2);
    Due.due("1 byte of 4", x.feed(0x3b3b3b32, 1), 7);
    Due.due("text", x.text(), 1);
    Due.due("who KNOW", x.count(4), 12);
    HeirHalves high = none();
    high.feed(0xff, 1);
    Due.due("a byte above 127 is one", high.text(), -1);

    Due.sentence("36: BEYOND: n (n 1 to 4)");
    Twin.range("feed(59, n)", Twin::some, 1, 4, (y, v) -> y.feed(59, v));

    Due.sentence("36: FULL (THE TAPE: bytes, at most 120)");
    for (int n = 1; n <= 4; n++) {
      int many = n;
      Due.due("to 120", blanks(120 - n).feed(0x20202020, n), 120);
      Twin.refused("feed to 121", Due.FULL, () -> blanks(121 - many), y -> y.feed(0x20202020, many));
    }
    Twin.refused("feed(59, 1) to what is full", Due.FULL, Twin::full, y -> y.feed(59, 1));

    Due.sentence("36: BEYOND. FULL: in this order");
    Twin.refused("feed(59, 5) to what is full", Due.BEYOND, Twin::full, y -> y.feed(59, 5));
    Twin.refused("feed(59, 0) to what is full", Due.BEYOND, Twin::full, y -> y.feed(59, 0));
  }

  private static void wipe() {
    Due.sentence("37: THE TAPE is empty: how many it had");
    HeirHalves x = Twin.full();
    Due.due("wipe", x.wipe(), 120);
    Due.due("count(5)", x.count(5), 0);
    Due.due("wipe again", x.wipe(), 0);
    Due.due("feed then", x.feed(0x6b6e6f77, 4), 4);
    x.feed(0x732030, 3);
    Due.due("text", x.text(), 1);
  }

  private static void text() {
    Due.sentence("38: THE TAPE is a TEXT, and empty then: how many ITEMS");
    HeirHalves x = told(1, "knows 0");
    Due.due("count(5)", x.count(5), 0);
    Due.due("text of nothing then", x.text(), -1);
    told(15, "knows 0" + ";knows 0".repeat(14));
    told(9, "part of 0" + ";part of 0".repeat(8));

    Due.sentence("38: all that it tells is so, item by item");
    HeirHalves y = told(4, "heirs 2 1 0;knows 0;heirs 1 0;knows 3");
    Due.due("HEIRS", y.count(2), 2);
    Due.due("ith(0)", y.ith(0), 1);
    Due.due("who KNOW", y.count(4), 9);

    Due.sentence("38: With a FAULT: -1 less the FAULT (nothing changes but that THE TAPE is empty; no finding)");
    HeirHalves z = wiped();
    Due.feed(z, "part of 1;heirs 0;knows 0;knows 2;knows 4");
    int findings = z.status(-1);
    Due.due("text", z.text(), -1 - 40);
    Due.due("status", z.status(-1), findings);
    fault(40, "part of 1;heirs 0;knows 0;knows 2;knows 4");
    Due.due("the greatest", blanks(120).text(), -121);
  }

  private static void tokens() {
    Due.sentence("TOKENS, each as long as can be: WORDS");
    fault(0, "partof 0");
    fault(5, "part ofof 0");
    fault(10, "part of 0 worthy 1");
    Due.sentence("TOKENS, each as long as can be: NUMBERS");
    HeirHalves x = told(1, "part of 0 worth 12 3");
    Due.due("12 is one NUMBER", x.of(0, 4), 12);
    Due.due("3 is the next", x.of(0, 5), 3);
    fault(8, "part of 00000000005");
    Due.sentence("NUMBERS (digits, 999 at most)");
    fault(6, "knows 1000");
    fault(6, "knows 4294967296");
    fault(6, "knows 18446744073709551617");
    fault(16, "part of 0 worth 999");
    fault(16, "part of 0 worth 1000");
    Due.sentence("letters a to z");
    fault(5, "part `of 0");
    fault(5, "part {of 0");
    fault(0, "Part of 0");
    fault(4, "part\u0000of 0");
    fault(0, "par\u0000t of 0");
    Due.sentence("another WORD: its own");
    String[] words = {"part", "pair", "living", "whole", "hourly", "feigned", "glued", "heirs", "knows"};
    for (String word : words) {
      likeButOther(word, "", word.equals("heirs") || word.equals("knows") ? " 0" : " of 0");
    }
    likeButOther("of", "part ", " 0");
    likeButOther("worth", "part of 0 ", " 1");
    likeButOther("edges", "part of 0 ", " 1 2");
    Due.sentence("blanks may stand between");
    told(1, "part of 0");
    told(2, "   part   of   0   ;   knows   1   ");
    told(2, "part of 0;knows 1");
    Due.due("none between a WORD and a NUMBER", told(1, "part of0worth1edges2 3").of(0, 3), 3);
  }

  /** Each letter of a WORD altered by itself, left out, or told twice: another WORD, so the FAULT is its own. */
  private static void likeButOther(String word, String before, String behind) {
    told(1, before + word + behind);
    for (int i = 0; i < word.length(); i++) {
      String begin = before + word.substring(0, i);
      String end = word.substring(i + 1) + behind;
      fault(before.length(), begin + 'x' + end);
      fault(before.length(), begin + end);
      fault(before.length(), begin + word.charAt(i) + word.charAt(i) + end);
    }
  }

  private static void parts() {
    Due.sentence("ITEM: .., of, a NUMBER (0 to 4)");
    Due.due("THING", told(1, "part of 0").of(0, 1), 0);
    Due.due("THING", told(1, "part of 4").of(0, 1), 4);
    fault(8, "part of 5");

    Due.sentence("perhaps worth and 1 to 4 NUMBERS (0 to 99)");
    worths("part of 0", 10, 10, 10, 10);
    worths("part of 0 worth 0", 0, 10, 10, 10);
    worths("part of 0 worth 99 0", 99, 0, 10, 10);
    worths("part of 0 worth 1 99 2", 1, 99, 2, 10);
    worths("part of 0 worth 1 2 3 99", 1, 2, 3, 99);
    fault(15, "part of 0 worth");
    fault(15, "part of 0 worth;knows 1");
    fault(16, "part of 0 worth 100");
    fault(18, "part of 0 worth 1 100");
    fault(24, "part of 0 worth 1 2 3 4 5");

    Due.sentence("(to those not told 10)");
    HeirHalves again = having(1);
    again.change(0, 7, 55);
    again.image();
    again.part(0, 0);
    again.change(1, 7, 66);
    again.undo();
    Due.due("text", Due.tell(again, "part of 0 worth 3"), 1);
    Due.due("WORTH to HEIR 3", again.of(1, 7), 10);

    Due.sentence("perhaps edges and two NUMBERS (0 to 9)");
    HeirHalves edged = told(3, "part of 0;part of 0 edges 9 0;part of 0 worth 5 edges 0 9");
    int[] edges = {0, 0, 9, 0, 0, 9};
    for (int i = 0; i < 6; i++) {
      Due.due("EDGE", edged.of(i / 2, 2 + i % 2), edges[i]);
    }
    fault(15, "part of 0 edges");
    fault(17, "part of 0 edges 1");
    fault(17, "part of 0 edges 1;knows 1");
    fault(16, "part of 0 edges 10 1");
    fault(18, "part of 0 edges 1 10");
    fault(20, "part of 0 edges 1 1 1");
    fault(20, "part of 0 edges 1 1 worth 1");

    Due.sentence("a new PART; the WORD of a 10th PART: its own");
    HeirHalves nine = having(8);
    Due.due("a 9th", Due.tell(nine, "glued of 4"), 1);
    Due.due("KIND", nine.of(8, 0), 6);
    String[] words = {"part", "pair", "living", "whole", "hourly", "feigned", "glued"};
    for (int kind = 0; kind < 7; kind++) {
      Due.due("KIND of " + words[kind], told(1, words[kind] + " of 1").of(0, 0), kind);
      faultIn(0, words[kind] + " of 1", () -> having(9));
      faultIn(11, "part of 0; " + words[kind] + " of 9", () -> having(8));
    }
    faultIn(8, "knows 1;part", () -> having(9));
  }

  private static void worths(String text, int... worths) {
    HeirHalves x = told(1, text);
    for (int heir = 0; heir < 4; heir++) {
      Due.due("WORTH to " + heir + " of \"" + text + "\"", x.of(0, 4 + heir), worths[heir]);
    }
  }

  private static void heirs() {
    Due.sentence("heirs and 1 to 4 NUMBERS (0 to 3, all less than how many they are, none twice)");
    String[] rows = {"0", "0 1", "1 0", "2 0 1", "0 2 1", "3 2 1 0", "0 1 2 3"};
    for (String row : rows) {
      HeirHalves x = told(1, "heirs " + row);
      String[] order = row.split(" ");
      Due.due("HEIRS of " + row, x.count(2), order.length);
      for (int i = 0; i < order.length; i++) {
        Due.due("ith(" + i + ") of " + row, x.ith(i), Integer.parseInt(order[i]));
      }
    }
    fault(5, "heirs");
    fault(5, "heirs;knows 1");

    Due.sentence("FAULT: with heirs one above 3");
    fault(6, "heirs 4");
    fault(8, "heirs 0 4 1");
    fault(10, "heirs 0 1 4");

    Due.sentence("FAULT: or told already");
    fault(8, "heirs 0 0");
    fault(12, "heirs 3 1 2 3");
    fault(10, "heirs 3 1 3 4");

    Due.sentence("FAULT: or a 5th");
    fault(14, "heirs 0 1 2 3 4");
    fault(14, "heirs 0 1 2 3 0");
    fault(14, "heirs 0 1 2 3 1000");

    Due.sentence("FAULT: if one isn't less than how many they are, the TOKEN behind them");
    fault(7, "heirs 1;knows 1");
    fault(10, "heirs 0 2 ;knows 1");
    fault(10, "heirs 3 0 knows 1");
    fault(12, "heirs 0 3 1 , 2");
    fault(7, "heirs 2");
    fault(9, "heirs 2  ");
    fault(11, "heirs 0 1 3");
  }

  private static void knows() {
    Due.sentence("knows and a NUMBER (0 to 3): that HEIR, too");
    for (int heir = 0; heir < 4; heir++) {
      HeirHalves x = none();
      x.knows(2, true);
      Due.due("text", Due.tell(x, "knows " + heir), 1);
      Due.due("who KNOW", x.count(4), 4 | 1 << heir);
    }
    fault(6, "knows 4");
    fault(5, "knows");
    fault(8, "knows 1 2");
    fault(6, "knows knows 1");
  }

  private static void faults() {
    Due.sentence("FAULT: the place (from 0) of the first byte of the first TOKEN that can't stand there");
    fault(0, "of 1");
    fault(0, "7");
    fault(0, ";");
    fault(0, "worth 1");
    fault(2, "  edges 1 1");
    fault(5, "part 0");
    fault(8, "part of of");
    fault(8, "part of ;");
    fault(10, "part of 0 1");
    fault(10, "part of 0 knows 1");
    fault(10, "part of 0;;knows 1");
    fault(18, "part of 0 worth 1 worth 1");
    fault(20, "part of 0 edges 1 1 edges 1 1");
    fault(0, "x of 9;knows 9");

    Due.sentence("FAULT: another WORD: its own");
    fault(0, "chair of 0");
    fault(0, "parts of 0");
    fault(0, "par of 0");
    fault(0, "bart of 0");
    fault(0, "partz of 0");
    fault(5, "part worth 1");
    fault(10, "part of 0 of 1");
    fault(10, "part of 0 heirs 0");
    fault(10, "part of 0;knowsx 1");

    Due.sentence("FAULT: a byte that begins no TOKEN: its own");
    int[] bytes = {0, 9, 10, 13, 31, 33, '-', '/', ':', '<', 'A', 'Z', '@', '[', '`', '{', 127, 128, 160, 255};
    for (int b : bytes) {
      fault(9, "part of 0" + (char) b);
      fault(10, "part of 0;" + (char) b + "knows 1");
    }

    Due.sentence("FAULT: how many bytes there are if it ends too early");
    fault(0, "");
    fault(1, " ");
    fault(4, "part");
    fault(6, "part  ");
    fault(7, "part of");
    fault(10, "part of 0;");
    fault(13, "part of 0;   ");
    fault(6, "knows ");
    fault(15, "part of 0 edges");
    fault(0, ";".repeat(120));
    fault(0, "9;".repeat(60));
    fault(119, "knows 1" + ";knows 1".repeat(13) + " ".repeat(8) + "x");
    Due.due("120 blanks", blanks(120).text(), -121);
    Due.due("119 blanks", blanks(119).text(), -120);
  }
}
