import java.lang.reflect.InvocationTargetException;
import java.lang.reflect.Method;
import java.util.ArrayList;
import java.util.List;

/** Promises 1 to 50 together: drawn runs of all acts in any order, each answer against the WholeModel's. */
final class WholeTest {
  // Behind each act what it is told: p PART, k KIND, t THING, w what, h HEIR, i HEIR or place of those there are,
  // n how many HEIRS, s SET, f FRONT of it, b yes or no, z any number, v a WORTH or a bit more, y YEARS, S SHEET,
  // B bits; a digit: 0 up to it.
  private static final String[] ACTS = {"part kt", "of pw", "change pwv", "change pwv", "change pwv", "thing t",
      "knows hb", "heirs n", "turn ii", "turn ii", "ith i", "brings phs", "value hs", "dearest s", "best h9",
      "share is", "share is", "gets is", "cut s", "takes sf", "left sf", "envy s", "wholes s", "lost s", "seat i",
      "fewer i", "fair", "common", "deal", "deal", "gift", "gift", "bring t", "joins pp", "rows t", "row t9", "years y",
      "ahead iy", "gossip 9", "seed z", "feed z4", "wipe", "text", "hold 9p", "hold 9p", "as 9k", "as 9k",
      "sheet SB9", "write S9v", "copy S4S44", "load Sh", "judge S", "image", "undo", "tear", "count w", "status w"};
  private static final int[] ODD = {Integer.MIN_VALUE, Integer.MAX_VALUE, -1, -2, -1000001, 511, 512, 7, 8, 9, 10, 16,
      32, 40, 41, 99, 100};
  private static final int[] BITS = {0, 8, 8, 8, 16, 32};
  private static final String[] KINDS = {"part", "pair", "living", "whole", "hourly", "feigned", "glued"};
  private static final String[] ROWS = {"0", "1 0", "0 1", "1 1", "1", "2 0 1", "3 1 0 2", "1 2 0", "0 3 2 1", "0 2"};
  private static final String SIGNS = " ;0159azA#\u00e9\t";

  private final HeirHalves x = new HeirHalves();
  private final WholeModel model = new WholeModel();
  // The model DIVIDES slowly: many PARTS only among few HEIRS.
  private final int mostParts;
  private final int mostHeirs;

  private WholeTest(boolean many) {
    mostParts = many ? 9 : 5;
    mostHeirs = many ? 2 : 4;
  }

  public static void main(String[] args) {
    for (int run = 0; run < 500; run++) {
      new WholeTest(run % 3 == 0).run();
    }
    Due.end("WholeTest");
  }

  private void run() {
    for (int p = Due.draw(mostParts + 1); p > 0; p--) {
      call("part", drawn("kt"));
    }
    call("heirs", 1 + Due.draw(mostHeirs));
    // Some are near the last YEAR from the begin.
    for (int n = Due.draw(8) == 0 ? 5 : 0; n > 0; n--) {
      call("years", 19);
    }
    for (int step = 0; step < 200; step++) {
      switch (Due.draw(25)) {
        case 0:
          tellText();
          break;
        case 1:
          tellReader();
          break;
        default:
          String[] act = ACTS[Due.draw(ACTS.length)].split(" ");
          boolean room = model.m.parts.size() < mostParts || mostParts == 9 || !act[0].equals("part");
          if (room) {
            call(act[0], drawn(act.length > 1 ? act[1] : ""));
          }
      }
    }
    for (int which = -1; which < 8; which++) {
      call("count", which);
      call("status", which);
    }
  }

  private int call(String act, Object... told) {
    int got = answer(x, act, told);
    int want = answer(model, act, told);
    Due.due(act + List.of(told), got, want);
    return want;
  }

  private int answer(Object on, String act, Object[] told) {
    try {
      return (Integer) method(on, act).invoke(on, told);
    } catch (InvocationTargetException e) {
      if (e.getCause() instanceof WholeModel.Finding finding) {
        model.found[Due.BEYOND - finding.answer]++;
        return finding.answer;
      }
      throw new IllegalStateException(act, e.getCause());
    } catch (IllegalAccessException e) {
      throw new IllegalStateException(act, e);
    }
  }

  private static Method method(Object on, String act) {
    for (Method m : on.getClass().getDeclaredMethods()) {
      if (m.getName().equals(act)) {
        return m;
      }
    }
    throw new IllegalStateException(act);
  }

  private Object[] drawn(String sorts) {
    Object[] told = new Object[sorts.length()];
    int before = 0;
    for (int i = 0; i < told.length; i++) {
      boolean odd = Due.draw(30) == 0 && sorts.charAt(i) != 'b';
      told[i] = odd ? (Object) ODD[Due.draw(ODD.length)] : one(sorts.charAt(i), before);
      before = told[i] instanceof Integer number ? number : 0;
    }
    return told;
  }

  private Object one(char sort, int before) {
    switch (sort) {
      case 'p': return Due.draw(model.m.parts.size() + 1) - Due.draw(2);
      case 'k': return Due.draw(7);
      case 't': return Due.draw(3) * Due.draw(3);
      case 'w': return Due.draw(8);
      case 'h': return Due.draw(4);
      case 'i': return Due.draw(model.m.order.length);
      case 's': return Due.draw(2) == 0 ? model.m.all() : Due.draw(model.m.all() + 1);
      case 'f': return before & -before | before & Due.draw(512);
      case 'b': return Due.draw(2) == 0;
      case 'z': return Due.draw(1 << 24) << 8 | Due.draw(256);
      case 'v': return Due.draw(3) == 0 ? Due.draw(102) - 1 : Due.draw(Due.draw(2) == 0 ? 4 : 21);
      case 'y': return Due.draw(8) == 0 ? Due.draw(21) : Due.draw(4);
      case 'S': return Due.draw(4);
      case 'B': return BITS[Due.draw(BITS.length)];
      case 'n': return 1 + Due.draw(mostHeirs);
      default: return Due.draw(sort - '0' + 1);
    }
  }

  /** A sheet that tells who has the PARTS, or nearly so. */
  private void tellReader() {
    int s = Due.draw(4);
    int parts = model.m.parts.size();
    call("sheet", s, BITS[1 + Due.draw(5)], Math.max(0, parts + Due.draw(8) / 6 - Due.draw(8) / 7));
    int[] shares = model.m.divide(model.m.order, 0, model.m.all());
    for (int part = 0; part < parts; part++) {
      call("write", s, part, Due.draw(12) == 0 ? Due.draw(6) - 1 : model.m.owner(shares, part));
    }
    call("judge", s);
  }

  private void tellText() {
    // Now and then behind what THE TAPE has already, till it is FULL.
    if (Due.draw(3) > 0) {
      call("wipe");
    }
    String text = drawText();
    int at = 0;
    while (at < text.length()) {
      int n = Math.min(1 + Due.draw(4), text.length() - at);
      int bytes = Due.draw(256);
      for (int i = 0; i < n; i++) {
        bytes = bytes << 8 | text.charAt(at + i);
      }
      call("feed", bytes, n);
      at += n;
    }
    if (Due.draw(4) > 0) {
      call("text");
    }
  }

  private String drawText() {
    List<String> items = new ArrayList<>();
    int parts = model.m.parts.size();
    for (int i = Due.draw(5); i >= 0; i--) {
      boolean room = parts < mostParts || mostParts == 9;
      int sort = Due.draw(5);
      if (sort > 1 && room) {
        items.add(drawPart());
        parts++;
      } else {
        items.add(sort == 0 ? "knows " + Due.draw(5) : "heirs " + ROWS[Due.draw(mostHeirs == 2 ? 5 : ROWS.length)]);
      }
    }
    StringBuilder text = new StringBuilder(String.join(Due.draw(2) == 0 ? ";" : " ; ", items));
    if (Due.draw(3) == 0) {
      text.insert(Due.draw(text.length() + 1), SIGNS.charAt(Due.draw(SIGNS.length())));
    }
    if (Due.draw(6) == 0) {
      text.deleteCharAt(Due.draw(text.length()));
    }
    if (text.length() > 120 || Due.draw(8) == 0) {
      text.setLength(Due.draw(Math.min(120, text.length()) + 1));
    }
    return text.toString();
  }

  private static String drawPart() {
    StringBuilder part = new StringBuilder(KINDS[Due.draw(7)] + " of " + Due.draw(Due.draw(4) == 0 ? 6 : 3));
    int worths = Due.draw(6) - 1;
    part.append(worths >= 0 && Due.draw(5) > 0 ? " worth 20" : "");
    for (int i = 1; i < worths; i++) {
      part.append(' ').append(Due.draw(101));
    }
    return Due.draw(2) == 0 ? part.toString() : part + " edges " + Due.draw(10) + " " + Due.draw(11);
  }
}
