import java.util.ArrayList;
import java.util.List;
import java.util.regex.Matcher;
import java.util.regex.Pattern;

/** Promise 38: told texts by themselves, and drawn ones against a regular expression of the grammar. */
final class TextTest {
  private static final Pattern TOKEN = Pattern.compile("[a-z]+|[0-9]+|[^ ]");
  private static final String[] KINDS = {"part", "pair", "living", "whole", "hourly", "feigned", "glued"};
  private static final String[] WORDS = {"part", "glued", "of", "worth", "edges", "heirs", "knows", ";", "0", "1", "2",
      "3", "4", "5", "9", "10", "99", "100", "999", "1000", "99999999999", "007", "x", "P", "\u00ff", "\t", "-", "parts"};
  // Each TOKEN one sign: P O W E H K ; by its word, a to d 0 to 3, e 4, f 5 to 9, g 10 to 99, X all else.
  private static final Pattern GRAMMAR = grammar();

  public static void main(String[] args) {
    faults();
    effects();
    byItself();
    for (int i = 0; i < 30000; i++) {
      drawn();
    }
    Due.end("TextTest");
  }

  private static void fault(String text, int place) {
    HeirHalves x = new HeirHalves();
    Due.due("\"" + text + "\"", Due.tell(x, text), -1 - place);
    Due.due("PARTS of \"" + text + "\"", x.count(1), 0);
    Due.due("HEIRS of \"" + text + "\"", x.count(2), 2);
    Due.due("tape of \"" + text + "\"", x.count(5), 0);
    Due.due("status of \"" + text + "\"", x.status(-1), 0);
  }

  private static void faults() {
    fault("", 0);
    fault("   ", 3);
    fault(";", 0);
    fault("  partof 0", 2);
    fault("part", 4);
    fault("part  ", 6);
    fault("part of", 7);
    fault("part of 5", 8);
    fault("part of x", 8);
    fault("part ofz 0", 5);
    fault("part ofa 0", 5);
    fault("part of{ 0", 7);
    fault("part of` 0", 7);
    fault("part of 0/", 9);
    fault("part of 0:", 9);
    fault("part of 0;", 10);
    fault("part of 0 ;; knows 1", 11);
    fault("part of 0 1", 10);
    fault("part of 0 worth", 15);
    fault("part of 0 worth;", 15);
    fault("part of 0 worth 100", 16);
    fault("part of 0 worth 1 2 3 4 5", 24);
    fault("part of 0 edges 1", 17);
    fault("part of 0 edges 10 1", 16);
    fault("part of 0 edges 1 10", 18);
    fault("part of 0 edges 1 1 1", 20);
    fault("part of 0 edges 1 1 worth 1", 20);
    fault("part of 0 worth 1 worth 1", 18);
    fault("part of 0 of 1", 10);
    fault("part of 0 knows 1", 10);
    fault("part of 0,", 9);
    fault("Part of 0", 0);
    fault("heirs", 5);
    fault("heirs 4", 6);
    fault("heirs 1", 7);
    fault("heirs 1  ", 9);
    fault("heirs 1 ; knows 1", 8);
    fault("heirs 1 # knows 1", 8);
    fault("heirs 1 1", 8);
    fault("heirs 0 2", 9);
    fault("heirs 0 2 x", 10);
    fault("heirs 0 2 4", 10);
    fault("heirs 0 1 2 3 4", 14);
    fault("heirs 0 1 2 3 0", 14);
    fault("knows", 5);
    fault("knows 4", 6);
    fault("knows 1 2", 8);
    fault("knows 1000", 6);
    fault("knows 4294967296", 6);
    fault("knows\t1", 5);
    fault("knows 1;\u0000", 8);
    fault("of 1", 0);
    fault("7", 0);
  }

  private static void effects() {
    HeirHalves x = new HeirHalves();
    x.knows(0, true);
    x.part(0, 0);
    x.change(0, 4, 77);
    Due.due("text", Due.tell(x, " glued of 3worth 5 06edges 7 0;heirs2 0 1;knows 2 ;whole of4edges 0 9;heirs 0"), 5);
    int[][] traits = {{6, 3, 7, 0, 5, 6, 10, 10}, {3, 4, 0, 9, 10, 10, 10, 10}};
    for (int what = 0; what < 8; what++) {
      Due.due("of(1, " + what + ")", x.of(1, what), traits[0][what]);
      Due.due("of(2, " + what + ")", x.of(2, what), traits[1][what]);
    }
    Due.due("those before stay", x.of(0, 4), 77);
    Due.due("who KNOW", x.count(4), 5);
    Due.due("HEIRS", x.count(2), 1);
    Due.due("text", Due.tell(x, "heirs 3 1 2 0"), 1);
    Due.due("turn none", x.turn(0, 0), 3);
    Due.due("ith", x.ith(3), 0);
    Due.due("text", Due.tell(x, "heirs 1 0;part of 0;pair of 0;part of 0;part of 0"), 5);
    Due.due("PARTS", x.count(1), 7);
    Due.due("a 10th PART", Due.tell(x, "part of 0;heirs 0;part of 1; living of 9"), -1 - 29);
    Due.due("nothing of it", x.count(1), 7);
    Due.due("nothing of it", x.count(2), 2);
    Due.due("9 PARTS", Due.tell(x, "part of 0;part of 1"), 2);
    Due.due("thing(1)", x.thing(1), 256);
    Due.due("a 10th PART", Due.tell(x, "hourly"), -1);
    Due.due("status", x.status(-1), 0);
  }

  /** A text of all 120 bytes, and one as many TOKENS as can be. */
  private static void byItself() {
    HeirHalves x = new HeirHalves();
    StringBuilder most = new StringBuilder("knows 1");
    while (most.length() < 119) {
      most.append(";heirs 0");
    }
    most.setLength(119);
    Due.due("119 bytes", Due.tell(x, most.toString()), 15);
    Due.due("120 bytes", Due.tell(x, most + " "), 15);
    StringBuilder signs = new StringBuilder();
    for (int i = 0; i < 120; i++) {
      signs.append(i % 2 == 0 ? '9' : ';');
    }
    Due.due("120 TOKENS", Due.tell(x, signs.toString()), -1);
  }

  private static Pattern grammar() {
    StringBuilder heirs = new StringBuilder("a");
    for (int told = 0; told < 256; told++) {
      for (int n = 2; n <= 4; n++) {
        StringBuilder row = new StringBuilder();
        for (int i = 0; i < n; i++) {
          row.append((char) ('a' + (told >> 2 * i & 3)));
        }
        boolean all = true;
        for (int i = 0; i < n; i++) {
          all &= row.indexOf(String.valueOf((char) ('a' + i))) >= 0;
        }
        if (all && told < 1 << 2 * n) {
          heirs.append('|').append(row);
        }
      }
    }
    String item = "(?:PO[a-e](?:W[a-g]{1,4})?(?:E[a-f]{2})?|K[a-d]|H(?:" + heirs + "))";
    return Pattern.compile(item + "(?:;" + item + ")*");
  }

  private static char sign(String token, int partsSoFar) {
    for (String kind : KINDS) {
      if (token.equals(kind)) {
        return partsSoFar < 9 ? 'P' : 'X';
      }
    }
    switch (token) {
      case "of": return 'O';
      case "worth": return 'W';
      case "edges": return 'E';
      case "heirs": return 'H';
      case "knows": return 'K';
      case ";": return ';';
      default:
    }
    if (!Character.isDigit(token.charAt(0)) || token.length() > 9) {
      return 'X';
    }
    int number = Integer.parseInt(token);
    return number < 5 ? (char) ('a' + number) : number < 10 ? 'f' : number < 100 ? 'g' : 'X';
  }

  private static void drawn() {
    HeirHalves x = new HeirHalves();
    int before = Due.draw(3) * 4;
    for (int p = 0; p < before; p++) {
      x.part(0, 0);
    }
    String text = drawText();
    List<String> tokens = new ArrayList<>();
    List<Integer> places = new ArrayList<>();
    Matcher m = TOKEN.matcher(text);
    while (m.find()) {
      tokens.add(m.group());
      places.add(m.start());
    }
    int want = answer(text, tokens, places, before);
    Due.due("\"" + text + "\" behind " + before + " PARTS", Due.tell(x, text), want);
    if (want < 0) {
      Due.due("PARTS, none new", x.count(1), before);
      Due.due("who KNOW, none new", x.count(4), 0);
      return;
    }
    check(x, tokens, before);
  }

  private static int answer(String text, List<String> tokens, List<Integer> places, int before) {
    StringBuilder signs = new StringBuilder();
    int parts = before;
    int items = 1;
    for (int i = 0; i < tokens.size(); i++) {
      char sign = sign(tokens.get(i), parts);
      signs.append(sign);
      parts += sign == 'P' ? 1 : 0;
      items += sign == ';' ? 1 : 0;
      Matcher m = GRAMMAR.matcher(signs);
      if (!m.matches() && !m.hitEnd()) {
        return -1 - places.get(i);
      }
    }
    return GRAMMAR.matcher(signs).matches() ? items : -1 - text.length();
  }

  private static void check(HeirHalves x, List<String> tokens, int before) {
    int part = before - 1;
    int what = 0;
    int knowers = 0;
    List<Integer> order = new ArrayList<>(List.of(0, 1));
    String last = "";
    int[] traits = new int[8];
    for (String token : tokens) {
      if (!Character.isDigit(token.charAt(0))) {
        for (int kind = 0; kind < 7; kind++) {
          if (token.equals(KINDS[kind])) {
            part = compare(x, part, before, traits) + 1;
            traits = new int[] {kind, 0, 0, 0, 10, 10, 10, 10};
          }
        }
        what = token.equals("of") ? 1 : token.equals("edges") ? 2 : 4;
        if (token.equals("heirs")) {
          order.clear();
        }
        last = token;
      } else if (last.equals("heirs")) {
        order.add(Integer.parseInt(token));
      } else if (last.equals("knows")) {
        knowers |= 1 << Integer.parseInt(token);
      } else {
        traits[what++] = Integer.parseInt(token);
      }
    }
    compare(x, part, before, traits);
    Due.due("PARTS", x.count(1), part + 1);
    Due.due("who KNOW", x.count(4), knowers);
    Due.due("HEIRS", x.count(2), order.size());
    for (int i = 0; i < order.size(); i++) {
      Due.due("ith", x.ith(i), order.get(i));
    }
  }

  private static int compare(HeirHalves x, int part, int before, int[] traits) {
    for (int what = 0; what < 8 && part >= before; what++) {
      Due.due("of(" + part + ", " + what + ")", x.of(part, what), traits[what]);
    }
    return part;
  }

  private static String drawText() {
    StringBuilder text = new StringBuilder();
    int items = 1 + Due.draw(6);
    for (int i = 0; i < items; i++) {
      text.append(i == 0 ? "" : ";").append(drawItem());
    }
    if (Due.draw(3) == 0) {
      text.insert(Due.draw(text.length() + 1), ' ');
    }
    if (Due.draw(2) == 0) {
      int at = text.indexOf(" ", Due.draw(text.length()));
      text.insert(at < 0 ? text.length() : at, " " + WORDS[Due.draw(WORDS.length)]);
    }
    if (text.length() > 120 || Due.draw(5) == 0) {
      text.setLength(Due.draw(Math.min(120, text.length()) + 1));
    }
    return text.toString();
  }

  private static String drawItem() {
    switch (Due.draw(4)) {
      case 0:
        String[] rows = {"0", "1 0", "0 1", "2 0 1", "3 1 0 2", "0 1 2 3", "1", "3 1", "0 0", "0 1 3"};
        return "heirs " + rows[Due.draw(rows.length)];
      case 1:
        return "knows " + Due.draw(5);
      default:
        StringBuilder part = new StringBuilder(KINDS[Due.draw(7)] + " of " + Due.draw(5));
        int worths = Due.draw(6) - 1;
        part.append(worths > 0 ? " worth" : "");
        for (int i = 0; i < worths; i++) {
          part.append(' ').append(Due.draw(100));
        }
        return Due.draw(2) == 0 ? part.toString() : part + " edges " + Due.draw(10) + " " + Due.draw(10);
    }
  }
}
